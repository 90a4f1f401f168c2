/-! Items: all looks; keys by place; new ones; other heights; moved ones. -/
theorem im1_le {q i : Nat} (hq : q < 2147483648) (hi : i < 2147483648) : nI q - 1 ≤ nI i ↔ q ≤ i + 1 := by
  cases q with
  | zero =>
    rw [im1_neg]
    constructor
    · intro _; omega
    · intro _
      have h1 : (-1 : Int32) ≤ 0 := by decide
      exact Int32.le_trans h1 (nI_pos' hi)
  | succ q =>
    rw [nI_pred, nI_leI (by omega) hi]
    omega
section IT
variable {σ : Hp} {j : Nat} {M : AM}
theorem ev_allLooks (hI : isI σ j M) (hw : wfT M) : Ev 29 [rI j] σ (fun r σ' => r = some (.inl (nI (alF M.2.2.2 M.1))) ∧ σ' = σ) := by
  have hn := hw.1
  have htop : topF M.2.2.2 M.1 ≤ 64 := topF_le _ hw.2
  have inner : ∀ (l last : Nat), l < 64 → last ≤ 40 → ∀ (m i p s : Nat) (x1 x2 x3 x4 x5 : Int32) (Q : Option PV → Hp → Prop), x1 = nI s → x2 = nI l → x3 = nI last - 1 → x4 = nI p → x5 = nI i → i + m = M.1 → (∀ (x1 x4 x5 : Int32), x1 = nI (alI M.2.2.2 l last m i p s) → RR 29 101 [some (rI j), some (.inl x1), some (.inl x2), some (.inl x3), some (.inl x4), some (.inl x5)] [] σ Q) → RR 29 29 [some (rI j), some (.inl x1), some (.inl x2), some (.inl x3), some (.inl x4), some (.inl x5)] [] σ Q := by
    intro l last hl hlast m
    induction m with
    | zero =>
      intro i p s x1 x2 x3 x4 x5 Q hx1 hx2 hx3 hx4 hx5 hi k
      refine G_if rfl (fun h => ?_) (fun h => ?_)
      · exact k _ _ _ hx1
      · rw [hI.1, hx5] at h
        exact absurd (nle h (by omega) (by omega)) (by omega)
    | succ m ih =>
      intro i p s x1 x2 x3 x4 x5 Q hx1 hx2 hx3 hx4 hx5 hi k
      have hT := hw.2 i (by omega)
      rw [alI] at k
      refine G_if rfl (fun h => ?_) (fun h => ?_)
      · rw [hI.1, hx5] at h
        exact absurd (ile h (by omega) (by omega)) (by omega)
      · refine G_ald rfl i hx5 (by omega) (by decide) ?_
        rw [(hI.2 i (by omega)).2.2]
        refine G_if rfl (fun h2 => ?_) (fun h2 => ?_)
        · rw [hx2] at h2
          have h2 := ile h2 (by omega) (by omega)
          rw [if_neg (by omega)] at k
          refine G_ald rfl i hx5 (by omega) (by decide) ?_
          rw [(hI.2 i (by omega)).2.2]
          refine G_if rfl (fun h3 => ?_) (fun h3 => ?_)
          · rw [hx2] at h3
            have h3 : ¬ M.2.2.2 i = l := fun e => h3 (by rw [e])
            rw [if_neg h3] at k
            refine G_if rfl (fun h4 => ?_) (fun h4 => ?_)
            · rw [hx3, hx5, im1_le (by omega) (by omega)] at h4
              rw [if_neg (by omega)] at k
              refine G_to [29] rfl ?_
              exact ih (i + 1) p (s + p) _ _ _ _ _ Q (by rw [hx1, hx4, nI_add]) hx2 hx3 hx4 (by rw [hx5]; exact nI_1 i) (by omega) k
            · rw [hx3, hx5, im1_le (by omega) (by omega)] at h4
              rw [if_pos (by omega)] at k
              refine G_to [29] rfl ?_
              exact ih (i + 1) p (s + (p + 1)) _ _ _ _ _ Q (by rw [hx1, hx4, nI_1, nI_add]) hx2 hx3 hx4 (by rw [hx5]; exact nI_1 i) (by omega) k
          · rw [hx2] at h3
            have h3 := ieq (Classical.not_not.mp h3) (by omega) (by omega)
            rw [if_pos h3] at k
            refine G_to [29] rfl ?_
            exact ih (i + 1) (p + 1) (s + (p + 1)) _ _ _ _ _ Q (by rw [hx1, hx4, nI_1, nI_add]) hx2 hx3 (by rw [hx4]; exact nI_1 p) (by rw [hx5]; exact nI_1 i) (by omega) k
        · rw [hx2] at h2
          have h2 := nle h2 (by omega) (by omega)
          rw [if_pos h2] at k
          refine G_to [29] rfl ?_
          exact ih (i + 1) 0 s _ _ _ _ _ Q hx1 hx2 hx3 nI_0.symm (by rw [hx5]; exact nI_1 i) (by omega) k
  have outer : ∀ (lv s : Nat) (x1 x2 : Int32) (x3 x4 x5 : Option PV), x1 = nI s → x2 = nI lv - 1 → lv ≤ 64 → RR 29 9 [some (rI j), some (.inl x1), some (.inl x2), x3, x4, x5] [] σ (fun r σ' => r = some (.inl (nI (alO M.2.2.2 M.1 lv s))) ∧ σ' = σ) := by
    intro lv
    induction lv with
    | zero =>
      intro s x1 x2 x3 x4 x5 hx1 hx2 hlv
      refine G_if rfl (fun h => ?_) (fun h => ?_)
      · exact G_ret rfl ⟨by rw [hx1]; rfl, rfl⟩
      · rw [hx2] at h
        exact absurd ((im1_lt (by omega)).mpr rfl) h
    | succ l ih =>
      intro s x1 x2 x3 x4 x5 hx1 hx2 hlv
      have hle := ahF_le M.2.2.2 l M.1
      refine G_if rfl (fun h => ?_) (fun h => ?_)
      · rw [hx2] at h
        exact absurd ((im1_lt (by omega)).mp h) (by omega)
      · refine G_callv rfl (by rw [hI.1, hx2, nI_pred]) (ev_ahead hI hw (p := M.1) (l := l) (Nat.le_refl _) (by omega)) ?_
        rintro r1 σ1 ⟨rfl, rfl⟩
        refine G_to [29] rfl ?_
        refine inner l (ahF M.2.2.2 l M.1) (by omega) (by omega) M.1 0 0 s _ _ _ _ _ _ hx1 (by rw [hx2]; exact nI_pred l) rfl nI_0.symm nI_0.symm (by omega) (fun y1 y4 y5 hy1 => ?_)
        refine G_to [9] rfl ?_
        exact ih _ _ _ _ _ _ hy1 (by rw [hx2]; exact im1_dec l) (by omega)
  refine G_call rfl (ev_top hI hw) ?_
  rintro r1 σ1 ⟨rfl, rfl⟩
  refine G_to [9] rfl ?_
  exact outer _ 0 _ _ _ _ _ nI_0.symm rfl htop
theorem ev_keyAt_in (hI : isI σ j M) (hn : M.1 ≤ 40) {x : Int32} {i : Nat} (hx : x = nI i) (hi : i < M.1) : Ev 28 [rI j, .inl x] σ (fun r σ' => r = some (.inl (nI (M.2.1 i))) ∧ σ' = σ) := by
  subst hx
  refine G_if rfl (fun q => ?_) (fun q => ?_)
  · exact absurd q (nI_pos (by omega))
  · refine G_if rfl (fun q2 => ?_) (fun q2 => ?_)
    · rw [hI.1] at q2
      exact absurd (ile q2 (by omega) (by omega)) (by omega)
    · refine G_ald rfl i rfl (by omega) (by decide) ?_
      rw [(hI.2 i hi).1]
      exact G_ret rfl ⟨rfl, rfl⟩
theorem ev_keyAt_out (hI : isI σ j M) {x : Int32} (hx : x < 0 ∨ nI M.1 ≤ x) : Ev 28 [rI j, .inl x] σ (fun r σ' => r = some (.inl (-9)) ∧ σ' = σ) := by
  refine G_if rfl (fun q => ?_) (fun q => ?_)
  · exact G_ret rfl ⟨rfl, rfl⟩
  · refine G_if rfl (fun q2 => ?_) (fun q2 => ?_)
    · exact G_ret rfl ⟨rfl, rfl⟩
    · rw [hI.1] at q2
      exact absurd hx (fun h => h.elim q q2)
theorem ev_newTo {j2 : Nat} {M2 : AM} (hI : isI σ j M) (hw : wfM M) (hI2 : isI σ j2 M2) (hw2 : wfM M2) {a b : Nat} (ha : a < 100) (hb : b < 100) : Ev 25 [rI j, rI j2, .inl (nI a), .inl (nI b)] σ (fun r σ' => r = some (.inl (nI (nwF M2 M.2.1 a b M.1 0 0))) ∧ σ' = σ) := by
  have hn := hw.1
  have loop : ∀ (m i s : Nat) (x4 x5 : Int32), x4 = nI s → x5 = nI i → i + m = M.1 → RR 25 6 [some (rI j), some (rI j2), some (.inl (nI a)), some (.inl (nI b)), some (.inl x4), some (.inl x5)] [] σ (fun r σ' => r = some (.inl (nI (nwF M2 M.2.1 a b m i s))) ∧ σ' = σ) := by
    intro m
    induction m with
    | zero =>
      intro i s x4 x5 hx4 hx5 hi
      refine G_if rfl (fun h => ?_) (fun h => ?_)
      · exact G_ret rfl ⟨by rw [hx4]; rfl, rfl⟩
      · rw [hI.1, hx5] at h
        exact absurd (nle h (by omega) (by omega)) (by omega)
    | succ m ih =>
      intro i s x4 x5 hx4 hx5 hi
      have hK := (hw.2.1 i (by omega)).1
      rw [nwF]
      have no : ¬ (a ≤ M.2.1 i ∧ M.2.1 i ≤ b ∧ ¬ has M2 (M.2.1 i)) → RR 25 54 [some (rI j), some (rI j2), some (.inl (nI a)), some (.inl (nI b)), some (.inl x4), some (.inl x5)] [] σ (fun r σ' => r = some (.inl (nI (nwF M2 M.2.1 a b m (i + 1) (@ite _ (a ≤ M.2.1 i ∧ M.2.1 i ≤ b ∧ ¬ has M2 (M.2.1 i)) (Classical.propDecidable _) (s + 1) s)))) ∧ σ' = σ) := by
        intro hno
        rw [if_neg hno]
        refine G_to [6] rfl ?_
        exact ih (i + 1) s _ _ hx4 (by rw [hx5]; exact nI_1 i) (by omega)
      refine G_if rfl (fun h => ?_) (fun h => ?_)
      · rw [hI.1, hx5] at h
        exact absurd (ile h (by omega) (by omega)) (by omega)
      · refine G_ald rfl i hx5 (by omega) (by decide) ?_
        rw [(hI.2 i (by omega)).1]
        refine G_if rfl (fun h2 => ?_) (fun h2 => ?_)
        · have h2 := ilt h2 (by omega) (by omega)
          exact no (fun q => by omega)
        · have h2 := nlt h2 (by omega) (by omega)
          refine G_ald rfl i hx5 (by omega) (by decide) ?_
          rw [(hI.2 i (by omega)).1]
          refine G_if rfl (fun h3 => ?_) (fun h3 => ?_)
          · have h3 := ilt h3 (by omega) (by omega)
            exact no (fun q => by omega)
          · have h3 := nlt h3 (by omega) (by omega)
            refine G_ald rfl i hx5 (by omega) (by decide) ?_
            rw [(hI.2 i (by omega)).1]
            refine G_call rfl (ev_indexOf hI2 hw2 (key := M.2.1 i) (by omega)) ?_
            rintro r1 σ1 ⟨rfl, ⟨hh, rfl⟩ | ⟨hh, rfl⟩⟩
            · refine G_if rfl (fun h4 => ?_) (fun h4 => ?_)
              · exact no (fun q => q.2.2 hh)
              · exact absurd (nI_pos' (by have := hh.1; have := hw2.1; omega)) h4
            · refine G_if rfl (fun h4 => ?_) (fun h4 => ?_)
              · exact absurd h4 (by decide)
              · rw [if_pos ⟨h2, h3, hh⟩]
                refine G_to [6] rfl ?_
                exact ih (i + 1) (s + 1) _ _ (by rw [hx4]; exact nI_1 s) (by rw [hx5]; exact nI_1 i) (by omega)
  refine G_to [6] rfl ?_
  exact loop M.1 0 0 _ _ nI_0.symm nI_0.symm (by omega)
end IT
