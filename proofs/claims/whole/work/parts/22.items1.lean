/-! Items: what it reads. -/
section IT
variable {σ : Hp} {j : Nat} {M : AM}
theorem ev_lesser (hI : isI σ j M) (hw : wfM M) {key : Nat} (hk : key < 2147483648) : Ev 10 [rI j, .inl (nI key)] σ (fun r σ' => r = some (.inl (nI (les M key))) ∧ σ' = σ) := by
  have loop : ∀ (m i : Nat) (x : Int32), x = nI i → i + m = M.1 → RR 10 2 [some (rI j), some (.inl (nI key)), some (.inl x)] [] σ (fun r σ' => r = some (.inl (nI (scn (fun i => decide (M.2.1 i < key)) m i))) ∧ σ' = σ) := by
    intro m
    induction m with
    | zero =>
      intro i x hx hi
      refine G_if rfl (fun h => ?_) (fun h => ?_)
      · exact G_ret rfl ⟨by rw [hx]; rfl, rfl⟩
      · exact absurd (by rw [hI.1, hx]; exact nI_le (by omega) (by have := hw.1; omega)) h
    | succ m ih =>
      intro i x hx hi
      have hiM : i < M.1 := by omega
      have hn := hw.1
      refine G_if rfl (fun h => ?_) (fun h => ?_)
      · rw [hI.1, hx] at h
        exact absurd h (nI_ge hiM (by omega))
      · refine G_ald rfl i hx (by omega) (by decide) ?_
        rw [(hI.2 i hiM).1]
        have hKi := (hw.2.1 i hiM).1
        refine G_if rfl (fun h => ?_) (fun h => ?_)
        · have h := (nI_leI hk (by omega)).mp h
          rw [scn_f (by simpa using h)]
          exact G_ret rfl ⟨by rw [hx], rfl⟩
        · have h2 : M.2.1 i < key := by
            rcases Nat.lt_or_ge (M.2.1 i) key with h3 | h3
            · exact h3
            · exact absurd ((nI_leI hk (by omega)).mpr h3) h
          rw [scn_t (by simpa using h2)]
          refine G_to [2] rfl ?_
          exact ih (i + 1) _ (by rw [hx]; exact nI_1 i) (by omega)
  refine G_to [2] rfl ?_
  exact loop M.1 0 0 nI_0.symm (by omega)
end IT
