/-! Items: what it writes. -/
/-- only Items number j has changed -/
def frI (j : Nat) (σ σ' : Hp) : Prop := (∀ k i, ¬ (i = j ∧ (k = 2 ∨ k = 7 ∨ k = 8 ∨ k = 9)) → σ'.1 k i = σ.1 k i) ∧ σ'.2 = σ.2
theorem frI.rf (j : Nat) (σ : Hp) : frI j σ σ := ⟨fun _ _ _ => rfl, rfl⟩
theorem frI.tr {j : Nat} {σ σ1 σ2 : Hp} (h : frI j σ σ1) (h2 : frI j σ1 σ2) : frI j σ σ2 := ⟨fun k i q => (h2.1 k i q).trans (h.1 k i q), h2.2.trans h.2⟩
theorem frI.st {j k i : Nat} {σ σ1 : Hp} {v : Int32} (h : frI j σ σ1) (hk : k = 2 ∨ k = 7 ∨ k = 8 ∨ k = 9) : frI j σ (hset σ1.1 k j i v, σ1.2) := by
  refine ⟨fun k' i' q => ?_, h.2⟩
  show hset σ1.1 k j i v k' i' = _
  rw [hset_ne (by rintro h1; cases h1; exact q ⟨rfl, hk⟩)]
  exact h.1 k' i' q
theorem frI.is {j j' : Nat} {σ σ' : Hp} {M : AM} (h : frI j σ σ') (hj : j' ≠ j) (hI : isI σ j' M) : isI σ' j' M := by
  have e : ∀ k, σ'.1 k j' = σ.1 k j' := fun k => h.1 k j' (fun q => hj q.1)
  unfold isI at hI ⊢
  rw [e 2, e 7, e 8, e 9]
  exact hI
def setT (M : AM) (T : Nat → Nat) : AM := (M.1, M.2.1, M.2.2.1, T)
theorem wf_setT {M : AM} {T : Nat → Nat} (h : wfM M) (hT : ∀ i, i < M.1 → T i < 64) : wfM (setT M T) := ⟨h.1, fun i hi => ⟨(h.2.1 i hi).1, (h.2.1 i hi).2.1, hT i hi⟩, h.2.2⟩
theorem wt_setT {M : AM} {T : Nat → Nat} (h : M.1 ≤ 40) (hT : ∀ i, i < M.1 → T i < 64) : wfT (setT M T) := ⟨h, hT⟩
/-- one more at a place: only places below n count -/
def partF (n : Nat) (T : Nat → Nat) (l p : Nat) : Nat → Nat :=
  if cntF T (l - 1) (bhF n T l p - ahF T l p) (ahF T l p) = 3 then upN T (nthF T (l - 1) (bhF n T l p - ahF T l p) (ahF T l p) 2) (T (nthF T (l - 1) (bhF n T l p - ahF T l p) (ahF T l p) 2) + 1) else T
theorem isI_up {σ : Hp} {j q v : Nat} {M : AM} (hI : isI σ j M) : isI (hset σ.1 9 j q (nI v), σ.2) j (setT M (upN M.2.2.2 q v)) := by
  refine ⟨by rw [show (hset σ.1 9 j q (nI v), σ.2).1 2 j 3 = σ.1 2 j 3 by simp [hset]]; exact hI.1, fun i hi => ?_⟩
  obtain ⟨h1, h2, h3⟩ := hI.2 i hi
  refine ⟨by simpa [hset, setT] using h1, by simpa [hset, setT] using h2, ?_⟩
  by_cases hq : i = q
  · simp [hset, setT, upN, hq]
  · simpa [hset, setT, upN, hq] using h3
section IT
variable {σ : Hp} {j : Nat} {M : AM}
theorem ev_raise (hI : isI σ j M) (hw : wfT M) {q : Nat} (hq : q < M.1) : Ev 18 [rI j, .inl (nI q)] σ (fun r σ' => r = none ∧ isI σ' j (setT M (upN M.2.2.2 q (M.2.2.2 q + 1))) ∧ frI j σ σ') := by
  have hn := hw.1
  refine G_if rfl (fun h => ?_) (fun h => ?_)
  · exact absurd h (nI_pos (by omega))
  · refine G_if rfl (fun h2 => ?_) (fun h2 => ?_)
    · rw [hI.1] at h2
      exact absurd (ile h2 (by omega) (by omega)) (by omega)
    · refine G_ald rfl q rfl (by omega) (by decide) ?_
      refine G_ast rfl q rfl (by omega) (by decide) ?_
      refine G_ret rfl ⟨rfl, ?_, (frI.rf j σ).st (by decide)⟩
      rw [(hI.2 q hq).2.2, nI_1]
      exact isI_up hI
theorem ev_partIfFull (hI : isI σ j M) (hw : wfT M) {l p : Nat} (hl : 1 ≤ l) (hl2 : l < 64) (hp : p ≤ M.1) : Ev 13 [rI j, .inl (nI l), .inl (nI p)] σ (fun r σ' => r = none ∧ isI σ' j (setT M (partF M.1 M.2.2.2 l p)) ∧ frI j σ σ') := by
  have hn := hw.1
  have ha := ahF_le M.2.2.2 l p
  have hb := bhF_le M.2.2.2 l hp
  have hc := cntF_le M.2.2.2 (l - 1) (bhF M.1 M.2.2.2 l p - ahF M.2.2.2 l p) (ahF M.2.2.2 l p)
  have hl3 : nI l - 1 = nI (l - 1) := by
    obtain ⟨l', rfl⟩ : ∃ l', l = l' + 1 := ⟨l - 1, by omega⟩
    exact nI_pred l'
  refine G_call rfl (ev_ahead hI hw hp (by omega)) ?_
  rintro r1 σ1 ⟨rfl, rfl⟩
  refine G_call rfl (ev_behind hI hw hp (by omega)) ?_
  rintro r1 σ1 ⟨rfl, rfl⟩
  rw [im1_add]
  refine G_callv rfl (by rw [hl3]) (ev_countOf hI hw (h := l - 1) (f := ahF M.2.2.2 l p) (t := bhF M.1 M.2.2.2 l p) (by omega) (by omega) (by omega)) ?_
  rintro r1 σ1 ⟨rfl, rfl⟩
  refine G_if rfl (fun h => ?_) (fun h => ?_)
  · have h2 : ¬ cntF M.2.2.2 (l - 1) (bhF M.1 M.2.2.2 l p - ahF M.2.2.2 l p) (ahF M.2.2.2 l p) = 3 := fun e => h (by rw [e]; rfl)
    refine G_ret rfl ⟨rfl, ?_, frI.rf j _⟩
    rw [partF, if_neg h2]
    exact hI
  · have h2 : cntF M.2.2.2 (l - 1) (bhF M.1 M.2.2.2 l p - ahF M.2.2.2 l p) (ahF M.2.2.2 l p) = 3 := ieq (b := 3) (Classical.not_not.mp h) (by omega) (by decide)
    obtain ⟨n1, n2, n3⟩ := nthF_in M.2.2.2 (l - 1) (bhF M.1 M.2.2.2 l p - ahF M.2.2.2 l p) (ahF M.2.2.2 l p) 2 (by decide) (by omega)
    refine G_callv rfl (by rw [hl3]; rfl) (ev_nth hI hw (k := 2) (h := l - 1) (f := ahF M.2.2.2 l p) (t := bhF M.1 M.2.2.2 l p) (by omega) (by omega) (by omega) (by decide) (by omega)) ?_
    rintro r1 σ1 ⟨rfl, rfl⟩
    refine G_call rfl (ev_raise hI hw (by omega)) ?_
    rintro r1 σ1 ⟨rfl, h3, h4⟩
    refine G_ret rfl ⟨rfl, ?_, h4⟩
    rw [partF, if_pos h2]
    exact h3
end IT
