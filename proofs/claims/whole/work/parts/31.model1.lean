/-! The model: its maps in a row of numbers; what it reads of them. -/
def isP (σ : Hp) (P mb : Nat) (M : AM) : Prop := σ.1 P 0 mb = nI M.1 ∧ ∀ i, i < M.1 → σ.1 P 0 (mb + 1 + i) = nI (M.2.1 i) ∧ σ.1 P 0 (mb + 41 + i) = nI (M.2.2.1 i) ∧ σ.1 P 0 (mb + 81 + i) = nI (M.2.2.2 i)
abbrev rP (P : Nat) : PV := .inr (.inr (P, 0))
abbrev rMo : PV := .inr (.inr (6, 0))
/-- only the model's own numbers have changed, not its text's size, its acts, what is sought -/
def frS (σ σ' : Hp) : Prop := (∀ k i, k ≠ 6 → σ'.1 k i = σ.1 k i) ∧ (∀ s, s = 2 ∨ s = 11 ∨ s = 14 ∨ 23 ≤ s → σ'.1 6 0 s = σ.1 6 0 s) ∧ σ'.2 = σ.2
/-- nor the half of a row beside mb .. mb + 120, nor other rows -/
def frP (P mb : Nat) (σ σ' : Hp) : Prop := (∀ k i, k ≠ 6 → ¬ (k = P ∧ i = 0) → σ'.1 k i = σ.1 k i) ∧ (∀ s, s = 2 ∨ s = 11 ∨ s = 14 ∨ 23 ≤ s → σ'.1 6 0 s = σ.1 6 0 s) ∧ σ'.2 = σ.2 ∧ ∀ x, ¬ (mb ≤ x ∧ x < mb + 121) → σ'.1 P 0 x = σ.1 P 0 x
theorem frS.rf (σ : Hp) : frS σ σ := ⟨fun _ _ _ => rfl, fun _ _ => rfl, rfl⟩
theorem frS.tr {σ σ1 σ2 : Hp} (h : frS σ σ1) (h2 : frS σ1 σ2) : frS σ σ2 := ⟨fun k i q => (h2.1 k i q).trans (h.1 k i q), fun s q => (h2.2.1 s q).trans (h.2.1 s q), h2.2.2.trans h.2.2⟩
theorem frP.rf (P mb : Nat) (σ : Hp) : frP P mb σ σ := ⟨fun _ _ _ _ => rfl, fun _ _ => rfl, rfl, fun _ _ => rfl⟩
theorem frP.tr {P mb : Nat} {σ σ1 σ2 : Hp} (h : frP P mb σ σ1) (h2 : frP P mb σ1 σ2) : frP P mb σ σ2 := ⟨fun k i q q2 => (h2.1 k i q q2).trans (h.1 k i q q2), fun s q => (h2.2.1 s q).trans (h.2.1 s q), h2.2.2.1.trans h.2.2.1, fun x q => (h2.2.2.2 x q).trans (h.2.2.2 x q)⟩
theorem frS.p {P mb : Nat} {σ σ' : Hp} (h : frS σ σ') (hP : P ≠ 6) : frP P mb σ σ' := ⟨fun k i q _ => h.1 k i q, h.2.1, h.2.2, fun x _ => by rw [h.1 P 0 hP]⟩
theorem frS.st {σ σ1 : Hp} {s : Nat} {v : Int32} (h : frS σ σ1) (hs : s ≠ 2 ∧ s ≠ 11 ∧ s ≠ 14 ∧ s < 23) : frS σ (hset σ1.1 6 0 s v, σ1.2) := by
  refine ⟨fun k i q => ?_, fun s' q => ?_, h.2.2⟩
  · show hset σ1.1 6 0 s v k i = _
    rw [hset_ne (by rintro h1; cases h1; exact q rfl)]
    exact h.1 k i q
  · show hset σ1.1 6 0 s v 6 0 s' = _
    unfold hset
    rw [if_neg (by omega)]
    exact h.2.1 s' q
theorem frP.st {P mb x : Nat} {σ σ1 : Hp} {v : Int32} (h : frP P mb σ σ1) (hP : P ≠ 6) (hx : mb ≤ x ∧ x < mb + 121) : frP P mb σ (hset σ1.1 P 0 x v, σ1.2) := by
  refine ⟨fun k i q q2 => ?_, fun s' q => ?_, h.2.2.1, fun y q => ?_⟩
  · show hset σ1.1 P 0 x v k i = _
    rw [hset_ne (by rintro h1; cases h1; exact q2 ⟨rfl, rfl⟩)]
    exact h.1 k i q q2
  · show hset σ1.1 P 0 x v 6 0 s' = _
    rw [hset_ne (by rintro h1; cases h1; exact hP rfl)]
    exact h.2.1 s' q
  · show hset σ1.1 P 0 x v P 0 y = _
    unfold hset
    rw [if_neg (by omega)]
    exact h.2.2.2 y q
theorem frS.is {P mb : Nat} {σ σ' : Hp} {M : AM} (h : frS σ σ') (hP : P ≠ 6) (hI : isP σ P mb M) : isP σ' P mb M := by
  unfold isP at hI ⊢
  rw [h.1 P 0 hP]
  exact hI
theorem ix1 (m i : Nat) : nI m + 1 + nI i = nI (m + 1 + i) := by rw [nI_1, nI_add]
theorem ix41 (m i : Nat) : nI m + 41 + nI i = nI (m + 41 + i) := by rw [show (41 : Int32) = nI 41 from rfl, nI_add, nI_add]
theorem ix81 (m i : Nat) : nI m + 81 + nI i = nI (m + 81 + i) := by rw [show (81 : Int32) = nI 81 from rfl, nI_add, nI_add]
theorem ev_in (a b c : Int64) (σ : Hp) : Ev 89 [.inr (.inl a), .inr (.inl b), .inr (.inl c)] σ (fun r σ' => σ' = σ ∧ ((b ≤ a ∧ a ≤ c ∧ r = some (.inl 1)) ∨ (¬ (b ≤ a ∧ a ≤ c) ∧ r = some (.inl 0)))) := by
  refine G_if rfl (fun q => ?_) (fun q => ?_)
  · have q := (lg_cmp_lt _ _).mp q
    exact G_retZ rfl (Or.inl rfl) ⟨rfl, Or.inr ⟨fun q2 => by
      have h1 := Int64.lt_iff_toInt_lt.mp q
      have h2 := Int64.le_iff_toInt_le.mp q2.1
      omega, rfl⟩⟩
  · have q1 : b ≤ a := by
      rcases Int64.le_total b a with h | h
      · exact h
      · rcases Int64.lt_or_eq_of_le h with h | h
        · exact absurd ((lg_cmp_lt _ _).mpr h) q
        · rw [h]; exact Int64.le_refl _
    refine G_if rfl (fun q2 => ?_) (fun q2 => ?_)
    · have q2 := (lg_cmp_gt _ _).mp q2
      exact G_retZ rfl (Or.inl rfl) ⟨rfl, Or.inr ⟨fun q3 => by
        have h1 := Int64.lt_iff_toInt_lt.mp q2
        have h2 := Int64.le_iff_toInt_le.mp q3.2
        omega, rfl⟩⟩
    · have q3 : a ≤ c := by
        rcases Int64.le_total a c with h | h
        · exact h
        · rcases Int64.lt_or_eq_of_le h with h | h
          · exact absurd ((lg_cmp_gt _ _).mpr h) q2
          · rw [h]; exact Int64.le_refl _
      exact G_retZ rfl (Or.inr rfl) ⟨rfl, Or.inl ⟨q1, q3, rfl⟩⟩
theorem i64_le {x y : Int32} : x.toInt64 ≤ y.toInt64 ↔ x ≤ y := by
  rw [Int64.le_iff_toInt_le, Int32.le_iff_toInt_le, Int32.toInt_toInt64, Int32.toInt_toInt64]
theorem ev_noMap (x : Int32) (σ : Hp) : Ev 97 [.inl x] σ (fun r σ' => σ' = σ ∧ ((0 ≤ x ∧ x ≤ 1 ∧ r = some (.inl 0)) ∨ (¬ (0 ≤ x ∧ x ≤ 1) ∧ r = some (.inl 1)))) := by
  have e0 : (0 : Int64) = (0 : Int32).toInt64 := rfl
  have e1 : (1 : Int64) = (1 : Int32).toInt64 := rfl
  refine G_call rfl (ev_in _ _ _ σ) ?_
  rintro r1 σ1 ⟨rfl, ⟨h1, h2, rfl⟩ | ⟨h1, rfl⟩⟩
  · rw [e0, i64_le] at h1
    rw [e1, i64_le] at h2
    refine G_if rfl (fun q => ?_) (fun q => ?_)
    · exact G_retZ rfl (Or.inl rfl) ⟨rfl, Or.inl ⟨h1, h2, rfl⟩⟩
    · exact absurd (by decide) q
  · rw [e0, e1, i64_le, i64_le] at h1
    refine G_if rfl (fun q => ?_) (fun q => ?_)
    · exact absurd rfl q
    · exact G_retZ rfl (Or.inr rfl) ⟨rfl, Or.inr ⟨h1, rfl⟩⟩
theorem ev_noKey (x : Int32) (σ : Hp) : Ev 100 [.inl x] σ (fun r σ' => σ' = σ ∧ ((0 ≤ x ∧ x ≤ 99 ∧ r = some (.inl 0)) ∨ (¬ (0 ≤ x ∧ x ≤ 99) ∧ r = some (.inl 1)))) := by
  have e0 : (0 : Int64) = (0 : Int32).toInt64 := rfl
  have e1 : (99 : Int64) = (99 : Int32).toInt64 := rfl
  refine G_call rfl (ev_in _ _ _ σ) ?_
  rintro r1 σ1 ⟨rfl, ⟨h1, h2, rfl⟩ | ⟨h1, rfl⟩⟩
  · rw [e0, i64_le] at h1
    rw [e1, i64_le] at h2
    refine G_if rfl (fun q => ?_) (fun q => ?_)
    · exact G_retZ rfl (Or.inl rfl) ⟨rfl, Or.inl ⟨h1, h2, rfl⟩⟩
    · exact absurd (by decide) q
  · rw [e0, e1, i64_le, i64_le] at h1
    refine G_if rfl (fun q => ?_) (fun q => ?_)
    · exact absurd rfl q
    · exact G_retZ rfl (Or.inr rfl) ⟨rfl, Or.inr ⟨h1, rfl⟩⟩
section MO
variable {σ : Hp} {mb : Nat} {M : AM}
theorem ev_find_21 (hI : isP σ 21 mb M) (hw : wfM M) (hm : mb + 121 ≤ 242) {key : Nat} (hk : key < 2147483648) : Ev 101 [rP 21, .inl (nI mb), .inl (nI key)] σ (fun r σ' => σ' = σ ∧ ((has M key ∧ r = some (.inl (nI (les M key)))) ∨ (¬ has M key ∧ r = some (.inl (-9))))) := by
  have hn := hw.1
  have loop : ∀ (m i : Nat) (x3 x4 : Int32), x4 = nI i → i + m = M.1 → ((∀ i', i' < i → M.2.1 i' ≠ key) ∧ x3 = -9 ∨ ∃ i', i' < i ∧ M.2.1 i' = key ∧ x3 = nI i') → RR 101 6 [some (rP 21), some (.inl (nI mb)), some (.inl (nI key)), some (.inl x3), some (.inl x4)] [] σ (fun r σ' => σ' = σ ∧ ((has M key ∧ r = some (.inl (nI (les M key)))) ∨ (¬ has M key ∧ r = some (.inl (-9))))) := by
    intro m
    induction m with
    | zero =>
      intro i x3 x4 hx4 hi hx3
      have hiM : i = M.1 := by omega
      subst hiM
      refine G_ald rfl mb rfl (by omega) (by decide) ?_
      rw [hI.1]
      refine G_if rfl (fun h => ?_) (fun h => ?_)
      · refine G_ret rfl ⟨rfl, ?_⟩
        rcases hx3 with ⟨h1, rfl⟩ | ⟨i', h1, h2, rfl⟩
        · right
          refine ⟨fun hh => ?_, rfl⟩
          exact h1 _ hh.1 hh.2
        · left
          refine ⟨(has_iff hw).mpr ⟨i', h1, h2⟩, ?_⟩
          rw [← h2, les_at hw h1]
      · rw [hx4] at h
        exact absurd (nle h (by omega) (by omega)) (by omega)
    | succ m ih =>
      intro i x3 x4 hx4 hi hx3
      have hK := (hw.2.1 i (by omega)).1
      refine G_ald rfl mb rfl (by omega) (by decide) ?_
      rw [hI.1]
      refine G_if rfl (fun h => ?_) (fun h => ?_)
      · rw [hx4] at h
        exact absurd (ile h (by omega) (by omega)) (by omega)
      · refine G_ald rfl (mb + 1 + i) (by rw [hx4]; exact ix1 mb i) (by omega) (by decide) ?_
        rw [(hI.2 i (by omega)).1]
        refine G_if rfl (fun h2 => ?_) (fun h2 => ?_)
        · have h2 : ¬ M.2.1 i = key := fun e => h2 (by rw [e])
          refine G_to [6] rfl ?_
          refine ih (i + 1) _ _ (by rw [hx4]; exact nI_1 i) (by omega) ?_
          rcases hx3 with ⟨h1, rfl⟩ | ⟨i', h1, h3, rfl⟩
          · left
            refine ⟨fun i' hi' => ?_, rfl⟩
            by_cases e : i' = i
            · rw [e]; exact h2
            · exact h1 i' (by omega)
          · exact Or.inr ⟨i', by omega, h3, rfl⟩
        · have h2 := ieq (Classical.not_not.mp h2) (by omega) hk
          refine G_to [6] rfl ?_
          exact ih (i + 1) _ _ (by rw [hx4]; exact nI_1 i) (by omega) (Or.inr ⟨i, by omega, h2, hx4⟩)
  refine G_to [6] rfl ?_
  exact loop M.1 0 _ _ nI_0.symm (by omega) (Or.inl ⟨fun i' h => by omega, rfl⟩)
theorem ev_plesser_21 (hI : isP σ 21 mb M) (hw : wfM M) (hm : mb + 121 ≤ 242) {key : Nat} (hk : key < 2147483648) : Ev 104 [rP 21, .inl (nI mb), .inl (nI key)] σ (fun r σ' => r = some (.inl (nI (les M key))) ∧ σ' = σ) := by
  have hn := hw.1
  have hle := les_le M key
  obtain ⟨l1, l2⟩ := les_spec hw key
  have loop : ∀ (m i : Nat) (x3 x4 : Int32), x4 = nI i → i + m = M.1 → x3 = nI (min i (les M key)) → RR 104 5 [some (rP 21), some (.inl (nI mb)), some (.inl (nI key)), some (.inl x3), some (.inl x4)] [] σ (fun r σ' => r = some (.inl (nI (les M key))) ∧ σ' = σ) := by
    intro m
    induction m with
    | zero =>
      intro i x3 x4 hx4 hi hx3
      refine G_ald rfl mb rfl (by omega) (by decide) ?_
      rw [hI.1]
      refine G_if rfl (fun h => ?_) (fun h => ?_)
      · exact G_ret rfl ⟨by rw [hx3, Nat.min_eq_right (by omega)], rfl⟩
      · rw [hx4] at h
        exact absurd (nle h (by omega) (by omega)) (by omega)
    | succ m ih =>
      intro i x3 x4 hx4 hi hx3
      have hK := (hw.2.1 i (by omega)).1
      refine G_ald rfl mb rfl (by omega) (by decide) ?_
      rw [hI.1]
      refine G_if rfl (fun h => ?_) (fun h => ?_)
      · rw [hx4] at h
        exact absurd (ile h (by omega) (by omega)) (by omega)
      · refine G_ald rfl (mb + 1 + i) (by rw [hx4]; exact ix1 mb i) (by omega) (by decide) ?_
        rw [(hI.2 i (by omega)).1]
        refine G_if rfl (fun h2 => ?_) (fun h2 => ?_)
        · have h2 := ile h2 hk (by omega)
          have h3 : les M key ≤ i := by
            rcases Nat.lt_or_ge i (les M key) with q | q
            · have := l1 i q
              omega
            · exact q
          refine G_to [5] rfl ?_
          refine ih (i + 1) _ _ (by rw [hx4]; exact nI_1 i) (by omega) ?_
          rw [hx3, show (0 : Int32) = nI 0 from rfl, nI_add, Nat.min_eq_right h3, Nat.min_eq_right (by omega)]
          rfl
        · have h2 := nle h2 hk (by omega)
          have h3 : i < les M key := by
            rcases Nat.lt_or_ge i (les M key) with q | q
            · exact q
            · have := l2 i q (by omega)
              omega
          refine G_to [5] rfl ?_
          refine ih (i + 1) _ _ (by rw [hx4]; exact nI_1 i) (by omega) ?_
          rw [hx3, Nat.min_eq_left (by omega), Nat.min_eq_left (by omega)]
          exact nI_1 i
  refine G_to [5] rfl ?_
  exact loop M.1 0 _ _ nI_0.symm (by omega) (by rw [Nat.zero_min]; rfl)
theorem ev_ptop_21 (hI : isP σ 21 mb M) (hw : wfT M) (hm : mb + 121 ≤ 242) : Ev 105 [rP 21, .inl (nI mb)] σ (fun r σ' => r = some (.inl (nI (topF M.2.2.2 M.1))) ∧ σ' = σ) := by
  have hn := hw.1
  have htop : ∀ i, i ≤ M.1 → topF M.2.2.2 i ≤ 64 := fun i hi => topF_le i (fun k hk => hw.2 k (by omega))
  have loop : ∀ (m i : Nat) (x2 x3 : Int32), x3 = nI i → i + m = M.1 → x2 = nI (topF M.2.2.2 i) → RR 105 4 [some (rP 21), some (.inl (nI mb)), some (.inl x2), some (.inl x3)] [] σ (fun r σ' => r = some (.inl (nI (topF M.2.2.2 M.1))) ∧ σ' = σ) := by
    intro m
    induction m with
    | zero =>
      intro i x2 x3 hx3 hi hx2
      have hiM : i = M.1 := by omega
      subst hiM
      refine G_ald rfl mb rfl (by omega) (by decide) ?_
      rw [hI.1]
      refine G_if rfl (fun h => ?_) (fun h => ?_)
      · exact G_ret rfl ⟨by rw [hx2], rfl⟩
      · rw [hx3] at h
        exact absurd (nle h (by omega) (by omega)) (by omega)
    | succ m ih =>
      intro i x2 x3 hx3 hi hx2
      have hT := hw.2 i (by omega)
      have ht := htop i (by omega)
      refine G_ald rfl mb rfl (by omega) (by decide) ?_
      rw [hI.1]
      refine G_if rfl (fun h => ?_) (fun h => ?_)
      · rw [hx3] at h
        exact absurd (ile h (by omega) (by omega)) (by omega)
      · refine G_ald rfl (mb + 81 + i) (by rw [hx3]; exact ix81 mb i) (by omega) (by decide) ?_
        rw [(hI.2 i (by omega)).2.2]
        refine G_if rfl (fun h2 => ?_) (fun h2 => ?_)
        · rw [hx2] at h2
          have h2 := ilt h2 (by omega) (by omega)
          refine G_to [4] rfl ?_
          refine ih (i + 1) _ _ (by rw [hx3]; exact nI_1 i) (by omega) ?_
          rw [hx2, topF, Nat.max_eq_left (by omega)]
        · rw [hx2] at h2
          have h2 := nlt h2 (by omega) (by omega)
          refine G_ald rfl (mb + 81 + i) (by rw [hx3]; exact ix81 mb i) (by omega) (by decide) ?_
          rw [(hI.2 i (by omega)).2.2]
          refine G_to [4] rfl ?_
          refine ih (i + 1) _ _ (by rw [hx3]; exact nI_1 i) (by omega) ?_
          rw [topF, Nat.max_eq_right (by omega)]
          exact nI_1 _
  refine G_to [4] rfl ?_
  exact loop M.1 0 _ _ nI_0.symm (by omega) nI_0.symm
theorem ev_nextOn_21 (hI : isP σ 21 mb M) (hw : wfT M) (hm : mb + 121 ≤ 242) {f l : Nat} (hf : f ≤ M.1) (hl : l < 2147483648) : Ev 120 [rP 21, .inl (nI mb), .inl (nI f), .inl (nI l)] σ (fun r σ' => r = some (.inl (nI (bhF M.1 M.2.2.2 l f))) ∧ σ' = σ) := by
  have hn := hw.1
  have loop : ∀ (m i : Nat) (x4 : Int32), x4 = nI i → i + m = M.1 → RR 120 3 [some (rP 21), some (.inl (nI mb)), some (.inl (nI f)), some (.inl (nI l)), some (.inl x4)] [] σ (fun r σ' => r = some (.inl (nI (scn (fun i => decide (M.2.2.2 i < l)) m i))) ∧ σ' = σ) := by
    intro m
    induction m with
    | zero =>
      intro i x4 hx4 hi
      refine G_ald rfl mb rfl (by omega) (by decide) ?_
      rw [hI.1]
      refine G_if rfl (fun h => ?_) (fun h => ?_)
      · exact G_ret rfl ⟨by rw [hx4]; rfl, rfl⟩
      · rw [hx4] at h
        exact absurd (nle h (by omega) (by omega)) (by omega)
    | succ m ih =>
      intro i x4 hx4 hi
      have hT := hw.2 i (by omega)
      refine G_ald rfl mb rfl (by omega) (by decide) ?_
      rw [hI.1]
      refine G_if rfl (fun h => ?_) (fun h => ?_)
      · rw [hx4] at h
        exact absurd (ile h (by omega) (by omega)) (by omega)
      · refine G_ald rfl (mb + 81 + i) (by rw [hx4]; exact ix81 mb i) (by omega) (by decide) ?_
        rw [(hI.2 i (by omega)).2.2]
        refine G_if rfl (fun h2 => ?_) (fun h2 => ?_)
        · have h2 := ile h2 hl (by omega)
          rw [scn_f (by simpa using h2)]
          exact G_ret rfl ⟨by rw [hx4], rfl⟩
        · have h2 := nle h2 hl (by omega)
          rw [scn_t (by simpa using h2)]
          refine G_to [3] rfl ?_
          exact ih (i + 1) _ (by rw [hx4]; exact nI_1 i) (by omega)
  refine G_to [3] rfl ?_
  exact loop (M.1 - f) f _ rfl (by omega)
theorem ev_between_21 (hI : isP σ 21 mb M) (hw : wfT M) (hm : mb + 121 ≤ 242) {a b h : Nat} (hb : b ≤ M.1) (ha : a ≤ M.1) (hh : h < 2147483648) : Ev 107 [rP 21, .inl (nI mb), .inl (nI a - 1), .inl (nI b), .inl (nI h)] σ (fun r σ' => r = some (.inl (nI (cntF M.2.2.2 h (b - a) a))) ∧ σ' = σ) := by
  have hn := hw.1
  have loop : ∀ (m i c : Nat) (x5 x6 : Int32), x6 = nI i → i + m = max b i → i ≤ M.1 → x5 = nI c → RR 107 8 [some (rP 21), some (.inl (nI mb)), some (.inl (nI a - 1)), some (.inl (nI b)), some (.inl (nI h)), some (.inl x5), some (.inl x6)] [] σ (fun r σ' => r = some (.inl (nI (c + cntF M.2.2.2 h m i))) ∧ σ' = σ) := by
    intro m
    induction m with
    | zero =>
      intro i c x5 x6 hx6 hi hiM hx5
      refine G_if rfl (fun q => ?_) (fun q => ?_)
      · exact G_ret rfl ⟨by rw [hx5]; rfl, rfl⟩
      · rw [hx6] at q
        exact absurd (nle q (by omega) (by omega)) (by omega)
    | succ m ih =>
      intro i c x5 x6 hx6 hi hiM hx5
      have hT := hw.2 i (by omega)
      refine G_if rfl (fun q => ?_) (fun q => ?_)
      · rw [hx6] at q
        exact absurd (ile q (by omega) (by omega)) (by omega)
      · refine G_ald rfl (mb + 81 + i) (by rw [hx6]; exact ix81 mb i) (by omega) (by decide) ?_
        rw [(hI.2 i (by omega)).2.2]
        refine G_if rfl (fun q2 => ?_) (fun q2 => ?_)
        · have q2 : ¬ M.2.2.2 i = h := fun e => q2 (by rw [e])
          refine G_to [8] rfl ?_
          rw [cntF, if_neg q2, Nat.zero_add]
          exact ih (i + 1) c _ _ (by rw [hx6]; exact nI_1 i) (by omega) (by omega) (by rw [hx5, show (0 : Int32) = nI 0 from rfl, nI_add, Nat.add_zero])
        · have q2 := ieq (Classical.not_not.mp q2) (by omega) hh
          refine G_to [8] rfl ?_
          rw [cntF, if_pos q2, ← Nat.add_assoc]
          exact ih (i + 1) (c + 1) _ _ (by rw [hx6]; exact nI_1 i) (by omega) (by omega) (by rw [hx5]; exact nI_1 c)
  refine G_to [8] rfl ?_
  have := loop (b - a) a 0 0 (nI a - 1 + 1) (im1_add a) (by omega) ha nI_0.symm
  rw [Nat.zero_add] at this
  exact this
theorem ev_placeOf_21 (hI : isP σ 21 mb M) (hw : wfT M) (hm : mb + 121 ≤ 242) {a b h w : Nat} (hb : b ≤ M.1) (ha : a ≤ b) (hh : h < 2147483648) (hwc : w < cntF M.2.2.2 h (b - a) a) : Ev 108 [rP 21, .inl (nI mb), .inl (nI a - 1), .inl (nI b), .inl (nI h), .inl (nI w)] σ (fun r σ' => r = some (.inl (nI (nthF M.2.2.2 h (b - a) a (w + 1)))) ∧ σ' = σ) := by
  have hn := hw.1
  have hcl := cntF_le M.2.2.2 h (b - a) a
  have loop : ∀ (m i c : Nat) (x6 x7 x8 : Int32), x8 = nI i → i + m = b → x7 = nI c → c + m ≤ 100 → ((c ≤ w ∧ w < c + cntF M.2.2.2 h m i ∧ nthF M.2.2.2 h m i (w + 1 - c) = nthF M.2.2.2 h (b - a) a (w + 1)) ∨ (w < c ∧ x6 = nI (nthF M.2.2.2 h (b - a) a (w + 1)))) → RR 108 12 [some (rP 21), some (.inl (nI mb)), some (.inl (nI a - 1)), some (.inl (nI b)), some (.inl (nI h)), some (.inl (nI w)), some (.inl x6), some (.inl x7), some (.inl x8)] [] σ (fun r σ' => r = some (.inl (nI (nthF M.2.2.2 h (b - a) a (w + 1)))) ∧ σ' = σ) := by
    intro m
    induction m with
    | zero =>
      intro i c x6 x7 x8 hx8 hi hx7 hcm hx6
      refine G_if rfl (fun q => ?_) (fun q => ?_)
      · refine G_ret rfl ⟨?_, rfl⟩
        rcases hx6 with ⟨h1, h2, -⟩ | ⟨h1, h2⟩
        · simp [cntF] at h2
          omega
        · rw [h2]
      · rw [hx8] at q
        exact absurd (nle q (by omega) (by omega)) (by omega)
    | succ m ih =>
      intro i c x6 x7 x8 hx8 hi hx7 hcm hx6
      have hT := hw.2 i (by omega)
      refine G_if rfl (fun q => ?_) (fun q => ?_)
      · rw [hx8] at q
        exact absurd (ile q (by omega) (by omega)) (by omega)
      · refine G_ald rfl (mb + 81 + i) (by rw [hx8]; exact ix81 mb i) (by omega) (by decide) ?_
        rw [(hI.2 i (by omega)).2.2]
        refine G_if rfl (fun q2 => ?_) (fun q2 => ?_)
        · have q2 : ¬ M.2.2.2 i = h := fun e => q2 (by rw [e])
          refine G_to [12] rfl ?_
          refine ih (i + 1) c _ _ _ (by rw [hx8]; exact nI_1 i) (by omega) hx7 (by omega) ?_
          rcases hx6 with ⟨h1, h2, h3⟩ | h1
          · left
            rw [cntF, if_neg q2, Nat.zero_add] at h2
            rw [nthF, if_neg q2] at h3
            exact ⟨h1, h2, h3⟩
          · exact Or.inr h1
        · have q2 := ieq (Classical.not_not.mp q2) (by omega) hh
          refine G_if rfl (fun q3 => ?_) (fun q3 => ?_)
          · rw [hx7] at q3
            have q3 : ¬ c = w := fun e => q3 (by rw [e])
            refine G_to [12] rfl ?_
            refine ih (i + 1) (c + 1) _ _ _ (by rw [hx8]; exact nI_1 i) (by omega) (by rw [hx7]; exact nI_1 c) (by omega) ?_
            rcases hx6 with ⟨h1, h2, h3⟩ | ⟨h1, h2⟩
            · left
              rw [cntF, if_pos q2] at h2
              rw [nthF, if_pos q2, if_neg (by omega)] at h3
              exact ⟨by omega, by omega, by rw [← h3]; congr 1⟩
            · exact Or.inr ⟨by omega, h2⟩
          · rw [hx7] at q3
            have q3 := ieq (Classical.not_not.mp q3) (by omega) (by omega)
            refine G_to [12] rfl ?_
            refine ih (i + 1) (c + 1) _ _ _ (by rw [hx8]; exact nI_1 i) (by omega) (by rw [hx7]; exact nI_1 c) (by omega) ?_
            right
            rcases hx6 with ⟨h1, h2, h3⟩ | ⟨h1, h2⟩
            · rw [nthF, if_pos q2, if_pos (by omega)] at h3
              exact ⟨by omega, by rw [hx8, h3]⟩
            · omega
  refine G_to [12] rfl ?_
  exact loop (b - a) a 0 _ _ _ (im1_add a) (by omega) nI_0.symm (by omega) (Or.inl ⟨by omega, by omega, rfl⟩)
theorem ev_heights_21 (hI : isP σ 21 mb M) (hw : wfT M) (hm : mb + 121 ≤ 242) : Ev 117 [rP 21, .inl (nI mb)] σ (fun r σ' => r = some (.inl (nI (hsF M.2.2.2 M.1 0 0))) ∧ σ' = σ) := by
  have hn := hw.1
  have loop : ∀ (m i s : Nat) (x2 x3 : Int32), x3 = nI i → i + m = M.1 → x2 = nI s → RR 117 4 [some (rP 21), some (.inl (nI mb)), some (.inl x2), some (.inl x3)] [] σ (fun r σ' => r = some (.inl (nI (hsF M.2.2.2 m i s))) ∧ σ' = σ) := by
    intro m
    induction m with
    | zero =>
      intro i s x2 x3 hx3 hi hx2
      refine G_ald rfl mb rfl (by omega) (by decide) ?_
      rw [hI.1]
      refine G_if rfl (fun h => ?_) (fun h => ?_)
      · exact G_ret rfl ⟨by rw [hx2]; rfl, rfl⟩
      · rw [hx3] at h
        exact absurd (nle h (by omega) (by omega)) (by omega)
    | succ m ih =>
      intro i s x2 x3 hx3 hi hx2
      refine G_ald rfl mb rfl (by omega) (by decide) ?_
      rw [hI.1]
      refine G_if rfl (fun h => ?_) (fun h => ?_)
      · rw [hx3] at h
        exact absurd (ile h (by omega) (by omega)) (by omega)
      · refine G_ald rfl (mb + 81 + i) (by rw [hx3]; exact ix81 mb i) (by omega) (by decide) ?_
        rw [(hI.2 i (by omega)).2.2]
        refine G_to [4] rfl ?_
        exact ih (i + 1) _ _ _ (by rw [hx3]; exact nI_1 i) (by omega) (by rw [hx2, nI_add])
  refine G_to [4] rfl ?_
  exact loop M.1 0 0 _ _ nI_0.symm (by omega) nI_0.symm
theorem ev_find_22 (hI : isP σ 22 mb M) (hw : wfM M) (hm : mb + 121 ≤ 242) {key : Nat} (hk : key < 2147483648) : Ev 101 [rP 22, .inl (nI mb), .inl (nI key)] σ (fun r σ' => σ' = σ ∧ ((has M key ∧ r = some (.inl (nI (les M key)))) ∨ (¬ has M key ∧ r = some (.inl (-9))))) := by
  have hn := hw.1
  have loop : ∀ (m i : Nat) (x3 x4 : Int32), x4 = nI i → i + m = M.1 → ((∀ i', i' < i → M.2.1 i' ≠ key) ∧ x3 = -9 ∨ ∃ i', i' < i ∧ M.2.1 i' = key ∧ x3 = nI i') → RR 101 6 [some (rP 22), some (.inl (nI mb)), some (.inl (nI key)), some (.inl x3), some (.inl x4)] [] σ (fun r σ' => σ' = σ ∧ ((has M key ∧ r = some (.inl (nI (les M key)))) ∨ (¬ has M key ∧ r = some (.inl (-9))))) := by
    intro m
    induction m with
    | zero =>
      intro i x3 x4 hx4 hi hx3
      have hiM : i = M.1 := by omega
      subst hiM
      refine G_ald rfl mb rfl (by omega) (by decide) ?_
      rw [hI.1]
      refine G_if rfl (fun h => ?_) (fun h => ?_)
      · refine G_ret rfl ⟨rfl, ?_⟩
        rcases hx3 with ⟨h1, rfl⟩ | ⟨i', h1, h2, rfl⟩
        · right
          refine ⟨fun hh => ?_, rfl⟩
          exact h1 _ hh.1 hh.2
        · left
          refine ⟨(has_iff hw).mpr ⟨i', h1, h2⟩, ?_⟩
          rw [← h2, les_at hw h1]
      · rw [hx4] at h
        exact absurd (nle h (by omega) (by omega)) (by omega)
    | succ m ih =>
      intro i x3 x4 hx4 hi hx3
      have hK := (hw.2.1 i (by omega)).1
      refine G_ald rfl mb rfl (by omega) (by decide) ?_
      rw [hI.1]
      refine G_if rfl (fun h => ?_) (fun h => ?_)
      · rw [hx4] at h
        exact absurd (ile h (by omega) (by omega)) (by omega)
      · refine G_ald rfl (mb + 1 + i) (by rw [hx4]; exact ix1 mb i) (by omega) (by decide) ?_
        rw [(hI.2 i (by omega)).1]
        refine G_if rfl (fun h2 => ?_) (fun h2 => ?_)
        · have h2 : ¬ M.2.1 i = key := fun e => h2 (by rw [e])
          refine G_to [6] rfl ?_
          refine ih (i + 1) _ _ (by rw [hx4]; exact nI_1 i) (by omega) ?_
          rcases hx3 with ⟨h1, rfl⟩ | ⟨i', h1, h3, rfl⟩
          · left
            refine ⟨fun i' hi' => ?_, rfl⟩
            by_cases e : i' = i
            · rw [e]; exact h2
            · exact h1 i' (by omega)
          · exact Or.inr ⟨i', by omega, h3, rfl⟩
        · have h2 := ieq (Classical.not_not.mp h2) (by omega) hk
          refine G_to [6] rfl ?_
          exact ih (i + 1) _ _ (by rw [hx4]; exact nI_1 i) (by omega) (Or.inr ⟨i, by omega, h2, hx4⟩)
  refine G_to [6] rfl ?_
  exact loop M.1 0 _ _ nI_0.symm (by omega) (Or.inl ⟨fun i' h => by omega, rfl⟩)
theorem ev_plesser_22 (hI : isP σ 22 mb M) (hw : wfM M) (hm : mb + 121 ≤ 242) {key : Nat} (hk : key < 2147483648) : Ev 104 [rP 22, .inl (nI mb), .inl (nI key)] σ (fun r σ' => r = some (.inl (nI (les M key))) ∧ σ' = σ) := by
  have hn := hw.1
  have hle := les_le M key
  obtain ⟨l1, l2⟩ := les_spec hw key
  have loop : ∀ (m i : Nat) (x3 x4 : Int32), x4 = nI i → i + m = M.1 → x3 = nI (min i (les M key)) → RR 104 5 [some (rP 22), some (.inl (nI mb)), some (.inl (nI key)), some (.inl x3), some (.inl x4)] [] σ (fun r σ' => r = some (.inl (nI (les M key))) ∧ σ' = σ) := by
    intro m
    induction m with
    | zero =>
      intro i x3 x4 hx4 hi hx3
      refine G_ald rfl mb rfl (by omega) (by decide) ?_
      rw [hI.1]
      refine G_if rfl (fun h => ?_) (fun h => ?_)
      · exact G_ret rfl ⟨by rw [hx3, Nat.min_eq_right (by omega)], rfl⟩
      · rw [hx4] at h
        exact absurd (nle h (by omega) (by omega)) (by omega)
    | succ m ih =>
      intro i x3 x4 hx4 hi hx3
      have hK := (hw.2.1 i (by omega)).1
      refine G_ald rfl mb rfl (by omega) (by decide) ?_
      rw [hI.1]
      refine G_if rfl (fun h => ?_) (fun h => ?_)
      · rw [hx4] at h
        exact absurd (ile h (by omega) (by omega)) (by omega)
      · refine G_ald rfl (mb + 1 + i) (by rw [hx4]; exact ix1 mb i) (by omega) (by decide) ?_
        rw [(hI.2 i (by omega)).1]
        refine G_if rfl (fun h2 => ?_) (fun h2 => ?_)
        · have h2 := ile h2 hk (by omega)
          have h3 : les M key ≤ i := by
            rcases Nat.lt_or_ge i (les M key) with q | q
            · have := l1 i q
              omega
            · exact q
          refine G_to [5] rfl ?_
          refine ih (i + 1) _ _ (by rw [hx4]; exact nI_1 i) (by omega) ?_
          rw [hx3, show (0 : Int32) = nI 0 from rfl, nI_add, Nat.min_eq_right h3, Nat.min_eq_right (by omega)]
          rfl
        · have h2 := nle h2 hk (by omega)
          have h3 : i < les M key := by
            rcases Nat.lt_or_ge i (les M key) with q | q
            · exact q
            · have := l2 i q (by omega)
              omega
          refine G_to [5] rfl ?_
          refine ih (i + 1) _ _ (by rw [hx4]; exact nI_1 i) (by omega) ?_
          rw [hx3, Nat.min_eq_left (by omega), Nat.min_eq_left (by omega)]
          exact nI_1 i
  refine G_to [5] rfl ?_
  exact loop M.1 0 _ _ nI_0.symm (by omega) (by rw [Nat.zero_min]; rfl)
theorem ev_ptop_22 (hI : isP σ 22 mb M) (hw : wfT M) (hm : mb + 121 ≤ 242) : Ev 105 [rP 22, .inl (nI mb)] σ (fun r σ' => r = some (.inl (nI (topF M.2.2.2 M.1))) ∧ σ' = σ) := by
  have hn := hw.1
  have htop : ∀ i, i ≤ M.1 → topF M.2.2.2 i ≤ 64 := fun i hi => topF_le i (fun k hk => hw.2 k (by omega))
  have loop : ∀ (m i : Nat) (x2 x3 : Int32), x3 = nI i → i + m = M.1 → x2 = nI (topF M.2.2.2 i) → RR 105 4 [some (rP 22), some (.inl (nI mb)), some (.inl x2), some (.inl x3)] [] σ (fun r σ' => r = some (.inl (nI (topF M.2.2.2 M.1))) ∧ σ' = σ) := by
    intro m
    induction m with
    | zero =>
      intro i x2 x3 hx3 hi hx2
      have hiM : i = M.1 := by omega
      subst hiM
      refine G_ald rfl mb rfl (by omega) (by decide) ?_
      rw [hI.1]
      refine G_if rfl (fun h => ?_) (fun h => ?_)
      · exact G_ret rfl ⟨by rw [hx2], rfl⟩
      · rw [hx3] at h
        exact absurd (nle h (by omega) (by omega)) (by omega)
    | succ m ih =>
      intro i x2 x3 hx3 hi hx2
      have hT := hw.2 i (by omega)
      have ht := htop i (by omega)
      refine G_ald rfl mb rfl (by omega) (by decide) ?_
      rw [hI.1]
      refine G_if rfl (fun h => ?_) (fun h => ?_)
      · rw [hx3] at h
        exact absurd (ile h (by omega) (by omega)) (by omega)
      · refine G_ald rfl (mb + 81 + i) (by rw [hx3]; exact ix81 mb i) (by omega) (by decide) ?_
        rw [(hI.2 i (by omega)).2.2]
        refine G_if rfl (fun h2 => ?_) (fun h2 => ?_)
        · rw [hx2] at h2
          have h2 := ilt h2 (by omega) (by omega)
          refine G_to [4] rfl ?_
          refine ih (i + 1) _ _ (by rw [hx3]; exact nI_1 i) (by omega) ?_
          rw [hx2, topF, Nat.max_eq_left (by omega)]
        · rw [hx2] at h2
          have h2 := nlt h2 (by omega) (by omega)
          refine G_ald rfl (mb + 81 + i) (by rw [hx3]; exact ix81 mb i) (by omega) (by decide) ?_
          rw [(hI.2 i (by omega)).2.2]
          refine G_to [4] rfl ?_
          refine ih (i + 1) _ _ (by rw [hx3]; exact nI_1 i) (by omega) ?_
          rw [topF, Nat.max_eq_right (by omega)]
          exact nI_1 _
  refine G_to [4] rfl ?_
  exact loop M.1 0 _ _ nI_0.symm (by omega) nI_0.symm
theorem ev_nextOn_22 (hI : isP σ 22 mb M) (hw : wfT M) (hm : mb + 121 ≤ 242) {f l : Nat} (hf : f ≤ M.1) (hl : l < 2147483648) : Ev 120 [rP 22, .inl (nI mb), .inl (nI f), .inl (nI l)] σ (fun r σ' => r = some (.inl (nI (bhF M.1 M.2.2.2 l f))) ∧ σ' = σ) := by
  have hn := hw.1
  have loop : ∀ (m i : Nat) (x4 : Int32), x4 = nI i → i + m = M.1 → RR 120 3 [some (rP 22), some (.inl (nI mb)), some (.inl (nI f)), some (.inl (nI l)), some (.inl x4)] [] σ (fun r σ' => r = some (.inl (nI (scn (fun i => decide (M.2.2.2 i < l)) m i))) ∧ σ' = σ) := by
    intro m
    induction m with
    | zero =>
      intro i x4 hx4 hi
      refine G_ald rfl mb rfl (by omega) (by decide) ?_
      rw [hI.1]
      refine G_if rfl (fun h => ?_) (fun h => ?_)
      · exact G_ret rfl ⟨by rw [hx4]; rfl, rfl⟩
      · rw [hx4] at h
        exact absurd (nle h (by omega) (by omega)) (by omega)
    | succ m ih =>
      intro i x4 hx4 hi
      have hT := hw.2 i (by omega)
      refine G_ald rfl mb rfl (by omega) (by decide) ?_
      rw [hI.1]
      refine G_if rfl (fun h => ?_) (fun h => ?_)
      · rw [hx4] at h
        exact absurd (ile h (by omega) (by omega)) (by omega)
      · refine G_ald rfl (mb + 81 + i) (by rw [hx4]; exact ix81 mb i) (by omega) (by decide) ?_
        rw [(hI.2 i (by omega)).2.2]
        refine G_if rfl (fun h2 => ?_) (fun h2 => ?_)
        · have h2 := ile h2 hl (by omega)
          rw [scn_f (by simpa using h2)]
          exact G_ret rfl ⟨by rw [hx4], rfl⟩
        · have h2 := nle h2 hl (by omega)
          rw [scn_t (by simpa using h2)]
          refine G_to [3] rfl ?_
          exact ih (i + 1) _ (by rw [hx4]; exact nI_1 i) (by omega)
  refine G_to [3] rfl ?_
  exact loop (M.1 - f) f _ rfl (by omega)
theorem ev_between_22 (hI : isP σ 22 mb M) (hw : wfT M) (hm : mb + 121 ≤ 242) {a b h : Nat} (hb : b ≤ M.1) (ha : a ≤ M.1) (hh : h < 2147483648) : Ev 107 [rP 22, .inl (nI mb), .inl (nI a - 1), .inl (nI b), .inl (nI h)] σ (fun r σ' => r = some (.inl (nI (cntF M.2.2.2 h (b - a) a))) ∧ σ' = σ) := by
  have hn := hw.1
  have loop : ∀ (m i c : Nat) (x5 x6 : Int32), x6 = nI i → i + m = max b i → i ≤ M.1 → x5 = nI c → RR 107 8 [some (rP 22), some (.inl (nI mb)), some (.inl (nI a - 1)), some (.inl (nI b)), some (.inl (nI h)), some (.inl x5), some (.inl x6)] [] σ (fun r σ' => r = some (.inl (nI (c + cntF M.2.2.2 h m i))) ∧ σ' = σ) := by
    intro m
    induction m with
    | zero =>
      intro i c x5 x6 hx6 hi hiM hx5
      refine G_if rfl (fun q => ?_) (fun q => ?_)
      · exact G_ret rfl ⟨by rw [hx5]; rfl, rfl⟩
      · rw [hx6] at q
        exact absurd (nle q (by omega) (by omega)) (by omega)
    | succ m ih =>
      intro i c x5 x6 hx6 hi hiM hx5
      have hT := hw.2 i (by omega)
      refine G_if rfl (fun q => ?_) (fun q => ?_)
      · rw [hx6] at q
        exact absurd (ile q (by omega) (by omega)) (by omega)
      · refine G_ald rfl (mb + 81 + i) (by rw [hx6]; exact ix81 mb i) (by omega) (by decide) ?_
        rw [(hI.2 i (by omega)).2.2]
        refine G_if rfl (fun q2 => ?_) (fun q2 => ?_)
        · have q2 : ¬ M.2.2.2 i = h := fun e => q2 (by rw [e])
          refine G_to [8] rfl ?_
          rw [cntF, if_neg q2, Nat.zero_add]
          exact ih (i + 1) c _ _ (by rw [hx6]; exact nI_1 i) (by omega) (by omega) (by rw [hx5, show (0 : Int32) = nI 0 from rfl, nI_add, Nat.add_zero])
        · have q2 := ieq (Classical.not_not.mp q2) (by omega) hh
          refine G_to [8] rfl ?_
          rw [cntF, if_pos q2, ← Nat.add_assoc]
          exact ih (i + 1) (c + 1) _ _ (by rw [hx6]; exact nI_1 i) (by omega) (by omega) (by rw [hx5]; exact nI_1 c)
  refine G_to [8] rfl ?_
  have := loop (b - a) a 0 0 (nI a - 1 + 1) (im1_add a) (by omega) ha nI_0.symm
  rw [Nat.zero_add] at this
  exact this
theorem ev_placeOf_22 (hI : isP σ 22 mb M) (hw : wfT M) (hm : mb + 121 ≤ 242) {a b h w : Nat} (hb : b ≤ M.1) (ha : a ≤ b) (hh : h < 2147483648) (hwc : w < cntF M.2.2.2 h (b - a) a) : Ev 108 [rP 22, .inl (nI mb), .inl (nI a - 1), .inl (nI b), .inl (nI h), .inl (nI w)] σ (fun r σ' => r = some (.inl (nI (nthF M.2.2.2 h (b - a) a (w + 1)))) ∧ σ' = σ) := by
  have hn := hw.1
  have hcl := cntF_le M.2.2.2 h (b - a) a
  have loop : ∀ (m i c : Nat) (x6 x7 x8 : Int32), x8 = nI i → i + m = b → x7 = nI c → c + m ≤ 100 → ((c ≤ w ∧ w < c + cntF M.2.2.2 h m i ∧ nthF M.2.2.2 h m i (w + 1 - c) = nthF M.2.2.2 h (b - a) a (w + 1)) ∨ (w < c ∧ x6 = nI (nthF M.2.2.2 h (b - a) a (w + 1)))) → RR 108 12 [some (rP 22), some (.inl (nI mb)), some (.inl (nI a - 1)), some (.inl (nI b)), some (.inl (nI h)), some (.inl (nI w)), some (.inl x6), some (.inl x7), some (.inl x8)] [] σ (fun r σ' => r = some (.inl (nI (nthF M.2.2.2 h (b - a) a (w + 1)))) ∧ σ' = σ) := by
    intro m
    induction m with
    | zero =>
      intro i c x6 x7 x8 hx8 hi hx7 hcm hx6
      refine G_if rfl (fun q => ?_) (fun q => ?_)
      · refine G_ret rfl ⟨?_, rfl⟩
        rcases hx6 with ⟨h1, h2, -⟩ | ⟨h1, h2⟩
        · simp [cntF] at h2
          omega
        · rw [h2]
      · rw [hx8] at q
        exact absurd (nle q (by omega) (by omega)) (by omega)
    | succ m ih =>
      intro i c x6 x7 x8 hx8 hi hx7 hcm hx6
      have hT := hw.2 i (by omega)
      refine G_if rfl (fun q => ?_) (fun q => ?_)
      · rw [hx8] at q
        exact absurd (ile q (by omega) (by omega)) (by omega)
      · refine G_ald rfl (mb + 81 + i) (by rw [hx8]; exact ix81 mb i) (by omega) (by decide) ?_
        rw [(hI.2 i (by omega)).2.2]
        refine G_if rfl (fun q2 => ?_) (fun q2 => ?_)
        · have q2 : ¬ M.2.2.2 i = h := fun e => q2 (by rw [e])
          refine G_to [12] rfl ?_
          refine ih (i + 1) c _ _ _ (by rw [hx8]; exact nI_1 i) (by omega) hx7 (by omega) ?_
          rcases hx6 with ⟨h1, h2, h3⟩ | h1
          · left
            rw [cntF, if_neg q2, Nat.zero_add] at h2
            rw [nthF, if_neg q2] at h3
            exact ⟨h1, h2, h3⟩
          · exact Or.inr h1
        · have q2 := ieq (Classical.not_not.mp q2) (by omega) hh
          refine G_if rfl (fun q3 => ?_) (fun q3 => ?_)
          · rw [hx7] at q3
            have q3 : ¬ c = w := fun e => q3 (by rw [e])
            refine G_to [12] rfl ?_
            refine ih (i + 1) (c + 1) _ _ _ (by rw [hx8]; exact nI_1 i) (by omega) (by rw [hx7]; exact nI_1 c) (by omega) ?_
            rcases hx6 with ⟨h1, h2, h3⟩ | ⟨h1, h2⟩
            · left
              rw [cntF, if_pos q2] at h2
              rw [nthF, if_pos q2, if_neg (by omega)] at h3
              exact ⟨by omega, by omega, by rw [← h3]; congr 1⟩
            · exact Or.inr ⟨by omega, h2⟩
          · rw [hx7] at q3
            have q3 := ieq (Classical.not_not.mp q3) (by omega) (by omega)
            refine G_to [12] rfl ?_
            refine ih (i + 1) (c + 1) _ _ _ (by rw [hx8]; exact nI_1 i) (by omega) (by rw [hx7]; exact nI_1 c) (by omega) ?_
            right
            rcases hx6 with ⟨h1, h2, h3⟩ | ⟨h1, h2⟩
            · rw [nthF, if_pos q2, if_pos (by omega)] at h3
              exact ⟨by omega, by rw [hx8, h3]⟩
            · omega
  refine G_to [12] rfl ?_
  exact loop (b - a) a 0 _ _ _ (im1_add a) (by omega) nI_0.symm (by omega) (Or.inl ⟨by omega, by omega, rfl⟩)
theorem ev_heights_22 (hI : isP σ 22 mb M) (hw : wfT M) (hm : mb + 121 ≤ 242) : Ev 117 [rP 22, .inl (nI mb)] σ (fun r σ' => r = some (.inl (nI (hsF M.2.2.2 M.1 0 0))) ∧ σ' = σ) := by
  have hn := hw.1
  have loop : ∀ (m i s : Nat) (x2 x3 : Int32), x3 = nI i → i + m = M.1 → x2 = nI s → RR 117 4 [some (rP 22), some (.inl (nI mb)), some (.inl x2), some (.inl x3)] [] σ (fun r σ' => r = some (.inl (nI (hsF M.2.2.2 m i s))) ∧ σ' = σ) := by
    intro m
    induction m with
    | zero =>
      intro i s x2 x3 hx3 hi hx2
      refine G_ald rfl mb rfl (by omega) (by decide) ?_
      rw [hI.1]
      refine G_if rfl (fun h => ?_) (fun h => ?_)
      · exact G_ret rfl ⟨by rw [hx2]; rfl, rfl⟩
      · rw [hx3] at h
        exact absurd (nle h (by omega) (by omega)) (by omega)
    | succ m ih =>
      intro i s x2 x3 hx3 hi hx2
      refine G_ald rfl mb rfl (by omega) (by decide) ?_
      rw [hI.1]
      refine G_if rfl (fun h => ?_) (fun h => ?_)
      · rw [hx3] at h
        exact absurd (ile h (by omega) (by omega)) (by omega)
      · refine G_ald rfl (mb + 81 + i) (by rw [hx3]; exact ix81 mb i) (by omega) (by decide) ?_
        rw [(hI.2 i (by omega)).2.2]
        refine G_to [4] rfl ?_
        exact ih (i + 1) _ _ _ (by rw [hx3]; exact nI_1 i) (by omega) (by rw [hx2, nI_add])
  refine G_to [4] rfl ?_
  exact loop M.1 0 0 _ _ nI_0.symm (by omega) nI_0.symm
end MO
