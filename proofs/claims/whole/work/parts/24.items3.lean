/-! Items: places opened and closed. -/
def insM (M : AM) (p k v h : Nat) : AM := (M.1 + 1, insF M.2.1 p k, insF M.2.2.1 p v, insF M.2.2.2 p h)
def delM (M : AM) (p : Nat) : AM := (M.1 - 1, delF M.2.1 p, delF M.2.2.1 p, delF M.2.2.2 p)
def shU (σ : Hp) (k j n i : Nat) (f : Nat → Nat) : Prop := (∀ x, x < i → σ.1 k j x = nI (f x)) ∧ ∀ x, i < x → x ≤ n → σ.1 k j x = nI (f (x - 1))
def shD (σ : Hp) (k j n i p : Nat) (f : Nat → Nat) : Prop := (∀ x, x < i → σ.1 k j x = nI (delF f p x)) ∧ ∀ x, i < x → x < n → σ.1 k j x = nI (f x)
section IT
variable {σ : Hp} {j : Nat} {M : AM}
theorem ev_openAt (hI : isI σ j M) {p k v h : Nat} (hn : M.1 < 40) (hp : p ≤ M.1) : Ev 7 [rI j, .inl (nI p), .inl (nI k), .inl (nI v), .inl (nI h)] σ (fun r σ' => r = none ∧ isI σ' j (insM M p k v h) ∧ frI j σ σ') := by
  have loop : ∀ (d : Nat) (x : Int32) (σ1 : Hp), x = nI (p + d) → p + d ≤ M.1 → σ1.1 2 j 3 = nI M.1 → shU σ1 7 j M.1 (p + d) M.2.1 → shU σ1 8 j M.1 (p + d) M.2.2.1 → shU σ1 9 j M.1 (p + d) M.2.2.2 → frI j σ σ1 →
      RR 7 28 [some (rI j), some (.inl (nI p)), some (.inl (nI k)), some (.inl (nI v)), some (.inl (nI h)), some (.inl x)] [] σ1 (fun r σ' => r = none ∧ isI σ' j (insM M p k v h) ∧ frI j σ σ') := by
    intro d
    induction d with
    | zero =>
      intro x σ1 hx hd hs h7 h8 h9 hf
      refine G_if rfl (fun q => ?_) (fun q => ?_)
      · refine G_ast rfl p rfl (by omega) (by decide) ?_
        refine G_ast rfl p rfl (by omega) (by decide) ?_
        refine G_ast rfl p rfl (by omega) (by decide) ?_
        refine G_ret rfl ⟨rfl, ⟨?_, fun i hi => ?_⟩, (((hf.st (by decide)).st (by decide)).st (by decide)).st (by decide)⟩
        · simp only [hset, insM]
          simp [hs, nI_1]
        · have hi : i < M.1 + 1 := hi
          have a7 := h7.1 i
          have b7 := h7.2 i
          have a8 := h8.1 i
          have b8 := h8.2 i
          have a9 := h9.1 i
          have b9 := h9.2 i
          rcases Nat.lt_trichotomy i p with hip | hip | hip
          · refine ⟨?_, ?_, ?_⟩ <;> simp [hset, insM, insF, hip, Nat.ne_of_lt hip]
            · exact a7 (by omega)
            · exact a8 (by omega)
            · exact a9 (by omega)
          · subst hip
            refine ⟨?_, ?_, ?_⟩ <;> simp [hset, insM, insF]
          · have h1 : ¬ i < p := by omega
            have h2 : ¬ i = p := by omega
            refine ⟨?_, ?_, ?_⟩ <;> simp [hset, insM, insF, h1, h2]
            · exact b7 (by omega) (by omega)
            · exact b8 (by omega) (by omega)
            · exact b9 (by omega) (by omega)
      · rw [hx] at q
        exact absurd (nle q (by omega) (by omega)) (by omega)
    | succ d ih =>
      intro x σ1 hx hd hs h7 h8 h9 hf
      have hd' : x - 1 = nI (p + d) := by rw [hx]; exact nI_pred (p + d)
      refine G_if rfl (fun q => ?_) (fun q => ?_)
      · rw [hx] at q
        exact absurd (ile q (by omega) (by omega)) (by omega)
      · refine G_ald rfl (p + d) hd' (by omega) (by decide) ?_
        refine G_ast rfl (p + (d + 1)) hx (by omega) (by decide) ?_
        refine G_ald rfl (p + d) hd' (by omega) (by decide) ?_
        refine G_ast rfl (p + (d + 1)) hx (by omega) (by decide) ?_
        refine G_ald rfl (p + d) hd' (by omega) (by decide) ?_
        refine G_ast rfl (p + (d + 1)) hx (by omega) (by decide) ?_
        refine G_to [28] rfl ?_
        refine ih _ _ (by rw [hx]; exact pk_m1 (p + d)) (by omega) ?_ ⟨fun y hy => ?_, fun y hy hy2 => ?_⟩ ⟨fun y hy => ?_, fun y hy hy2 => ?_⟩ ⟨fun y hy => ?_, fun y hy hy2 => ?_⟩ (((hf.st (by decide)).st (by decide)).st (by decide))
        · simpa [hset] using hs
        · have := h7.1 y (by omega)
          simpa [hset, show ¬ y = p + (d + 1) by omega] using this
        · by_cases hyy : y = p + (d + 1)
          · have := h7.1 (p + d) (by omega)
            subst hyy
            simpa [hset] using this
          · have := h7.2 y (by omega) hy2
            simpa [hset, hyy] using this
        · have := h8.1 y (by omega)
          simpa [hset, show ¬ y = p + (d + 1) by omega] using this
        · by_cases hyy : y = p + (d + 1)
          · have := h8.1 (p + d) (by omega)
            subst hyy
            simpa [hset] using this
          · have := h8.2 y (by omega) hy2
            simpa [hset, hyy] using this
        · have := h9.1 y (by omega)
          simpa [hset, show ¬ y = p + (d + 1) by omega] using this
        · by_cases hyy : y = p + (d + 1)
          · have := h9.1 (p + d) (by omega)
            subst hyy
            simpa [hset] using this
          · have := h9.2 y (by omega) hy2
            simpa [hset, hyy] using this
  refine G_if rfl (fun q => ?_) (fun q => ?_)
  · rw [hI.1] at q
    exact absurd (ile (a := 40) q (by omega) (by omega)) (by omega)
  · refine G_if rfl (fun q => ?_) (fun q => ?_)
    · exact absurd q (nI_pos (by omega))
    · refine G_if rfl (fun q => ?_) (fun q => ?_)
      · refine G_to [28] rfl ?_
        exact loop (M.1 - p) _ σ (by rw [hI.1, show p + (M.1 - p) = M.1 by omega]) (by omega) hI.1 ⟨fun y hy => (hI.2 y (by omega)).1, fun y h1 h2 => by omega⟩ ⟨fun y hy => (hI.2 y (by omega)).2.1, fun y h1 h2 => by omega⟩ ⟨fun y hy => (hI.2 y (by omega)).2.2, fun y h1 h2 => by omega⟩ (frI.rf j σ)
      · rw [hI.1] at q
        exact absurd (nle q (by omega) (by omega)) (by omega)
theorem ev_closeAt (hI : isI σ j M) {p : Nat} (hn : M.1 ≤ 40) (hp : p < M.1) : Ev 24 [rI j, .inl (nI p)] σ (fun r σ' => r = none ∧ isI σ' j (delM M p) ∧ frI j σ σ') := by
  have loop : ∀ (m i : Nat) (x : Int32) (σ1 : Hp), x = nI i → i + m = M.1 - 1 → p ≤ i → σ1.1 2 j 3 = nI (M.1 - 1) → shD σ1 7 j M.1 i p M.2.1 → shD σ1 8 j M.1 i p M.2.2.1 → shD σ1 9 j M.1 i p M.2.2.2 → frI j σ σ1 →
      RR 24 25 [some (rI j), some (.inl (nI p)), some (.inl x)] [] σ1 (fun r σ' => r = none ∧ isI σ' j (delM M p) ∧ frI j σ σ') := by
    intro m
    induction m with
    | zero =>
      intro i x σ1 hx hi hpi hs h7 h8 h9 hf
      refine G_if rfl (fun q => ?_) (fun q => ?_)
      · refine G_ret rfl ⟨rfl, ⟨hs, fun y hy => ?_⟩, hf⟩
        have hy : y < M.1 - 1 := hy
        exact ⟨h7.1 y (by omega), h8.1 y (by omega), h9.1 y (by omega)⟩
      · rw [hs, hx] at q
        exact absurd (nle q (by omega) (by omega)) (by omega)
    | succ m ih =>
      intro i x σ1 hx hi hpi hs h7 h8 h9 hf
      have hx1 : x + 1 = nI (i + 1) := by rw [hx]; exact nI_1 i
      refine G_if rfl (fun q => ?_) (fun q => ?_)
      · rw [hs, hx] at q
        exact absurd (ile q (by omega) (by omega)) (by omega)
      · refine G_ald rfl (i + 1) hx1 (by omega) (by decide) ?_
        refine G_ast rfl i hx (by omega) (by decide) ?_
        refine G_ald rfl (i + 1) hx1 (by omega) (by decide) ?_
        refine G_ast rfl i hx (by omega) (by decide) ?_
        refine G_ald rfl (i + 1) hx1 (by omega) (by decide) ?_
        refine G_ast rfl i hx (by omega) (by decide) ?_
        refine G_to [25] rfl ?_
        refine ih (i + 1) _ _ hx1 (by omega) (by omega) ?_ ⟨fun y hy => ?_, fun y hy hy2 => ?_⟩ ⟨fun y hy => ?_, fun y hy hy2 => ?_⟩ ⟨fun y hy => ?_, fun y hy hy2 => ?_⟩ (((hf.st (by decide)).st (by decide)).st (by decide))
        · simpa [hset] using hs
        · by_cases hyy : y = i
          · have := h7.2 (i + 1) (by omega) (by omega)
            subst hyy
            simpa [hset, delF, show ¬ y < p by omega] using this
          · have := h7.1 y (by omega)
            simpa [hset, hyy] using this
        · have := h7.2 y (by omega) hy2
          simpa [hset, show ¬ y = i by omega] using this
        · by_cases hyy : y = i
          · have := h8.2 (i + 1) (by omega) (by omega)
            subst hyy
            simpa [hset, delF, show ¬ y < p by omega] using this
          · have := h8.1 y (by omega)
            simpa [hset, hyy] using this
        · have := h8.2 y (by omega) hy2
          simpa [hset, show ¬ y = i by omega] using this
        · by_cases hyy : y = i
          · have := h9.2 (i + 1) (by omega) (by omega)
            subst hyy
            simpa [hset, delF, show ¬ y < p by omega] using this
          · have := h9.1 y (by omega)
            simpa [hset, hyy] using this
        · have := h9.2 y (by omega) hy2
          simpa [hset, show ¬ y = i by omega] using this
  refine G_if rfl (fun q => ?_) (fun q => ?_)
  · exact absurd q (nI_pos (by omega))
  · refine G_if rfl (fun q => ?_) (fun q => ?_)
    · refine G_to [25] rfl ?_
      have hdl : ∀ (f : Nat → Nat) (y : Nat), y < p → delF f p y = f y := fun f y hy => by simp [delF, hy]
      refine loop (M.1 - 1 - p) p _ _ rfl (by omega) (Nat.le_refl _) ?_ ⟨fun y hy => ?_, fun y h1 h2 => ?_⟩ ⟨fun y hy => ?_, fun y h1 h2 => ?_⟩ ⟨fun y hy => ?_, fun y h1 h2 => ?_⟩ ((frI.rf j σ).st (by decide))
      · show hset σ.1 2 j 3 (σ.1 2 j 3 - 1) 2 j 3 = _
        unfold hset
        rw [if_pos ⟨rfl, rfl, rfl⟩, hI.1]
        obtain ⟨n', hn'⟩ : ∃ n', M.1 = n' + 1 := ⟨M.1 - 1, by omega⟩
        rw [hn']
        exact nI_pred n'
      · rw [hdl _ _ hy]
        simpa [hset] using (hI.2 y (by omega)).1
      · simpa [hset] using (hI.2 y (by omega)).1
      · rw [hdl _ _ hy]
        simpa [hset] using (hI.2 y (by omega)).2.1
      · simpa [hset] using (hI.2 y (by omega)).2.1
      · rw [hdl _ _ hy]
        simpa [hset] using (hI.2 y (by omega)).2.2
      · simpa [hset] using (hI.2 y (by omega)).2.2
    · rw [hI.1] at q
      exact absurd (nlt q (by omega) (by omega)) (by omega)
/-- two neighbours change places, but for their heights -/
def swpF (f : Nat → Nat) (p : Nat) : Nat → Nat := fun i => if i = p then f (p + 1) else if i = p + 1 then f p else f i
theorem ev_changePlaces (hI : isI σ j M) {p : Nat} (hn : M.1 ≤ 40) (hp : p + 1 < M.1) : Ev 20 [rI j, .inl (nI p)] σ (fun r σ' => r = none ∧ isI σ' j (M.1, swpF M.2.1 p, swpF M.2.2.1 p, M.2.2.2) ∧ frI j σ σ') := by
  refine G_ald rfl p rfl (by omega) (by decide) ?_
  refine G_ald rfl p rfl (by omega) (by decide) ?_
  refine G_ald rfl (p + 1) (nI_1 p) (by omega) (by decide) ?_
  refine G_ast rfl p rfl (by omega) (by decide) ?_
  refine G_ald rfl (p + 1) (nI_1 p) (by omega) (by decide) ?_
  refine G_ast rfl p rfl (by omega) (by decide) ?_
  refine G_ast rfl (p + 1) (nI_1 p) (by omega) (by decide) ?_
  refine G_ast rfl (p + 1) (nI_1 p) (by omega) (by decide) ?_
  refine G_ret rfl ⟨rfl, ⟨by simpa [hset] using hI.1, fun i hi => ?_⟩, ((((frI.rf j σ).st (by decide)).st (by decide)).st (by decide)).st (by decide)⟩
  have hi : i < M.1 := hi
  obtain ⟨a1, a2, a3⟩ := hI.2 i hi
  obtain ⟨b1, b2, b3⟩ := hI.2 p (by omega)
  obtain ⟨c1, c2, c3⟩ := hI.2 (p + 1) (by omega)
  rcases Nat.lt_trichotomy i p with hip | hip | hip
  · refine ⟨?_, ?_, ?_⟩ <;> simp [hset, swpF, show ¬ i = p by omega, show ¬ i = p + 1 by omega, a1, a2, a3]
  · subst hip
    refine ⟨?_, ?_, ?_⟩ <;> simp [hset, swpF, c1, c2, a3]
  · by_cases hip2 : i = p + 1
    · subst hip2
      refine ⟨?_, ?_, ?_⟩ <;> simp [hset, swpF, b1, b2, a3]
    · refine ⟨?_, ?_, ?_⟩ <;> simp [hset, swpF, show ¬ i = p by omega, hip2, a1, a2, a3]
end IT
