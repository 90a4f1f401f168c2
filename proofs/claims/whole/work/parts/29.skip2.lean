/-! Heights: one comes up, one more item, one less. -/
theorem LB_raise {n : Nat} {T : Nat → Nat} (h : LB n T) {l q : Nat} (hl : 1 ≤ l) (hq : q < n) (hTq : T q = l - 1)
    (h2 : ∀ z, z ≤ n + 1 → fen n T l z → (q + 1 < z → ∃ r, q + 1 < r ∧ r < z ∧ T (r - 1) = l - 1) ∧ (z < q + 1 → ∃ r, z < r ∧ r < q + 1 ∧ T (r - 1) = l - 1)) : LB n (upN T q l) := by
  have hT' : ∀ i, i ≠ q → upN T q l i = T i := by intro i h1; simp [upN, h1]
  have hT'q : upN T q l q = l := by simp [upN]
  generalize upN T q l = T' at hT' hT'q
  intro l' hl' hex p z hpz hz hp hzf
  by_cases hll : l' = l
  · subst hll
    have hfe : ∀ w, fen n T' l' w → (fen n T l' w ∧ w ≠ q + 1) ∨ w = q + 1 := by
      intro w hw
      rcases hw with h0 | h0 | ⟨w1, w2, w3⟩
      · exact Or.inl ⟨Or.inl h0, by omega⟩
      · exact Or.inl ⟨Or.inr (Or.inl h0), by omega⟩
      · by_cases e2 : w = q + 1
        · exact Or.inr e2
        · rw [hT' (w - 1) (by omega)] at w3
          exact Or.inl ⟨Or.inr (Or.inr ⟨w1, w2, w3⟩), e2⟩
    have fix : ∀ r, T (r - 1) = l' - 1 → 1 ≤ r → r ≠ q + 1 → T' (r - 1) = l' - 1 := by
      intro r hr h1 hrq
      rw [hT' (r - 1) (by omega)]
      exact hr
    rcases hfe p hp with ⟨a1, a2⟩ | a1 <;> rcases hfe z hzf with ⟨b1, b2⟩ | b1
    · by_cases hb : p < q + 1 ∧ q + 1 < z
      · obtain ⟨r, r1, r2, r3⟩ := (h2 z hz b1).1 hb.2
        exact ⟨r, by omega, r2, fix r r3 (by omega) (by omega)⟩
      · have hex0 : ∃ i, i < n ∧ l' ≤ T i := by
          rcases a1 with h0 | h0 | ⟨w1, w2, w3⟩
          · rcases b1 with h0' | h0' | ⟨w1, w2, w3⟩
            · omega
            · omega
            · exact ⟨z - 1, by omega, w3⟩
          · omega
          · exact ⟨p - 1, by omega, w3⟩
        obtain ⟨r, r1, r2, r3⟩ := h l' hl' hex0 p z hpz hz a1 b1
        exact ⟨r, r1, r2, fix r r3 (by omega) (by omega)⟩
    · subst b1
      obtain ⟨r, r1, r2, r3⟩ := (h2 p (by omega) a1).2 hpz
      exact ⟨r, r1, r2, fix r r3 (by omega) (by omega)⟩
    · subst a1
      obtain ⟨r, r1, r2, r3⟩ := (h2 z hz b1).1 hpz
      exact ⟨r, r1, r2, fix r r3 (by omega) (by omega)⟩
    · omega
  · have hex0 : ∃ i, i < n ∧ l' ≤ T i := by
      obtain ⟨i, hi, hi2⟩ := hex
      by_cases h1 : i = q
      · subst h1
        rw [hT'q] at hi2
        exact ⟨i, hi, by omega⟩
      · rw [hT' i h1] at hi2
        exact ⟨i, hi, hi2⟩
    have hfe : ∀ w, fen n T' l' w → fen n T l' w := by
      intro w hw
      rcases hw with h0 | h0 | ⟨w1, w2, w3⟩
      · exact Or.inl h0
      · exact Or.inr (Or.inl h0)
      · refine Or.inr (Or.inr ⟨w1, w2, ?_⟩)
        by_cases e1 : w - 1 = q
        · rw [e1] at w3 ⊢; omega
        · rw [← hT' _ e1]; exact w3
    obtain ⟨r, r1, r2, r3⟩ := h l' hl' hex0 p z hpz hz (hfe p hp) (hfe z hzf)
    refine ⟨r, r1, r2, ?_⟩
    by_cases e1 : r - 1 = q
    · rw [e1] at r3
      omega
    · rw [hT' _ e1]
      exact r3
theorem ahF_sp (T : Nat → Nat) (l : Nat) : ∀ p, (ahF T l p = 0 ∨ l ≤ T (ahF T l p - 1)) ∧ ∀ i, ahF T l p ≤ i → i < p → T i < l
  | 0 => ⟨Or.inl rfl, fun i _ h => by omega⟩
  | p + 1 => by
    obtain ⟨h1, h2⟩ := ahF_sp T l p
    unfold ahF
    split
    · next h =>
      refine ⟨h1, fun i hi hp => ?_⟩
      by_cases hip : i = p
      · subst hip; exact h
      · exact h2 i hi (by omega)
    · next h => exact ⟨Or.inr (by simpa using h), fun i hi hp => by omega⟩
theorem bhF_sp {n : Nat} (T : Nat → Nat) (l : Nat) {p : Nat} (hp : p ≤ n) : (bhF n T l p = n ∨ (bhF n T l p < n ∧ l ≤ T (bhF n T l p))) ∧ ∀ i, p ≤ i → i < bhF n T l p → T i < l := by
  obtain ⟨h1, h2, h3, h4⟩ := scn_spec (fun i => decide (T i < l)) (n - p) p
  unfold bhF
  refine ⟨?_, fun i hi hb => by simpa using h3 i hi hb⟩
  rcases Nat.lt_or_ge (scn (fun i => decide (T i < l)) (n - p) p) n with h5 | h5
  · exact Or.inr ⟨h5, by simpa using h4 (by omega)⟩
  · exact Or.inl (by omega)
theorem nthF_lt (T : Nat → Nat) (h : Nat) : ∀ (m i k k' : Nat), 1 ≤ k → k < k' → k' ≤ cntF T h m i → nthF T h m i k < nthF T h m i k'
  | 0, i, k, k', h1, h2, h3 => by simp [cntF] at h3; omega
  | m + 1, i, k, k', h1, h2, h3 => by
    unfold cntF at h3
    unfold nthF
    by_cases hT : T i = h
    · rw [if_pos hT] at h3
      rw [if_pos hT, if_pos hT, if_neg (show ¬ k' = 1 by omega)]
      by_cases hk : k = 1
      · rw [if_pos hk]
        have := nthF_in T h m (i + 1) (k' - 1) (by omega) (by omega)
        omega
      · rw [if_neg hk]
        exact nthF_lt T h m (i + 1) (k - 1) (k' - 1) (by omega) (by omega) (by omega)
    · rw [if_neg hT] at h3
      rw [if_neg hT, if_neg hT]
      exact nthF_lt T h m (i + 1) k k' h1 h2 (by omega)
theorem cntF_pos (T : Nat → Nat) (h : Nat) : ∀ (m i r : Nat), i ≤ r → r < i + m → T r = h → 1 ≤ cntF T h m i
  | 0, i, r, h1, h2, h3 => by omega
  | m + 1, i, r, h1, h2, h3 => by
    unfold cntF
    by_cases hr : r = i
    · subst hr
      rw [if_pos h3]
      omega
    · have := cntF_pos T h m (i + 1) r (by omega) (by omega) h3
      omega
/-- no fence of a level lies within its gap -/
theorem fen_out {n : Nat} {T : Nat → Nat} {l a b z : Nat} (hab : ∀ i, a ≤ i → i < b → T i < l) (hz : fen n T l z) (hb : b ≤ n) : z ≤ a ∨ b + 1 ≤ z := by
  rcases hz with h0 | h0 | ⟨w1, w2, w3⟩
  · omega
  · omega
  · rcases Nat.lt_or_ge a z with h1 | h1
    · rcases Nat.lt_or_ge b z with h2 | h2
      · omega
      · have := hab (z - 1) (by omega) (by omega)
        omega
    · omega
theorem gap_all {n : Nat} (T : Nat → Nat) (l : Nat) {p : Nat} (hp : p ≤ n) : ∀ i, ahF T l p ≤ i → i < bhF n T l p → T i < l := by
  intro i h1 h2
  rcases Nat.lt_or_ge i p with h3 | h3
  · exact (ahF_sp T l p).2 i h1 h3
  · exact (bhF_sp T l hp).2 i h3 h2
theorem LB_part {n : Nat} {T : Nat → Nat} (h : LB n T) {l p : Nat} (hl : 1 ≤ l) (hp : p ≤ n) : LB n (partF n T l p) := by
  unfold partF
  split
  · next hc =>
    have ha := ahF_le T l p
    have hb := bhF_le T l hp
    have hg := gap_all T l hp
    obtain ⟨n1, n2, n3⟩ := nthF_in T (l - 1) (bhF n T l p - ahF T l p) (ahF T l p) 2 (by decide) (by omega)
    obtain ⟨m1, m2, m3⟩ := nthF_in T (l - 1) (bhF n T l p - ahF T l p) (ahF T l p) 1 (by decide) (by omega)
    obtain ⟨k1, k2, k3⟩ := nthF_in T (l - 1) (bhF n T l p - ahF T l p) (ahF T l p) 3 (by decide) (by omega)
    have h12 := nthF_lt T (l - 1) (bhF n T l p - ahF T l p) (ahF T l p) 1 2 (by decide) (by decide) (by omega)
    have h23 := nthF_lt T (l - 1) (bhF n T l p - ahF T l p) (ahF T l p) 2 3 (by decide) (by decide) (by omega)
    rw [n3, show l - 1 + 1 = l by omega]
    refine LB_raise h hl (by omega) n3 (fun z hz hzf => ?_)
    have ho := fen_out hg hzf (by omega)
    refine ⟨fun hzq => ⟨nthF T (l - 1) (bhF n T l p - ahF T l p) (ahF T l p) 3 + 1, by omega, by omega, by simpa using k3⟩, fun hzq => ⟨nthF T (l - 1) (bhF n T l p - ahF T l p) (ahF T l p) 1 + 1, by omega, by omega, by simpa using m3⟩⟩
  · exact h
theorem LB_partL {n p : Nat} (hp : p ≤ n) : ∀ (l : Nat) (T : Nat → Nat), LB n T → LB n (partL n p l T)
  | 0, T, h => h
  | l + 1, T, h => LB_partL hp l _ (LB_part h (by omega) hp)
theorem LB_ins {n : Nat} {T : Nat → Nat} (h : LB n T) {p : Nat} (hp : p ≤ n) : LB (n + 1) (insF T p 0) := by
  intro l hl hex q z hqz hz hq hzf
  have new : ∀ i, insF T p 0 i = if i < p then T i else if i = p then 0 else T (i - 1) := fun i => rfl
  have hex0 : ∃ i, i < n ∧ l ≤ T i := by
    obtain ⟨i, hi, hi2⟩ := hex
    rw [new] at hi2
    split at hi2
    · exact ⟨i, by omega, hi2⟩
    · split at hi2
      · omega
      · exact ⟨i - 1, by omega, hi2⟩
  have back : ∀ w, w ≤ n + 2 → fen (n + 1) (insF T p 0) l w → w ≠ p + 1 ∧ fen n T l (if w ≤ p then w else w - 1) := by
    intro w hwn hw
    rcases hw with h0 | h0 | ⟨w1, w2, w3⟩
    · subst h0
      exact ⟨by omega, Or.inl (by simp)⟩
    · subst h0
      refine ⟨by omega, Or.inr (Or.inl ?_)⟩
      rw [if_neg (by omega)]
      omega
    · rw [new] at w3
      split at w3
      · next hh =>
        refine ⟨by omega, Or.inr (Or.inr ?_)⟩
        rw [if_pos (by omega)]
        exact ⟨w1, by omega, w3⟩
      · split at w3
        · omega
        · refine ⟨by omega, Or.inr (Or.inr ?_)⟩
          rw [if_neg (by omega)]
          exact ⟨by omega, by omega, w3⟩
  obtain ⟨q1, q2⟩ := back q (by omega) hq
  obtain ⟨z1, z2⟩ := back z (by omega) hzf
  obtain ⟨r, r1, r2, r3⟩ := h l hl hex0 (if q ≤ p then q else q - 1) (if z ≤ p then z else z - 1) (by split <;> split <;> omega) (by split <;> omega) q2 z2
  by_cases hrp : r ≤ p
  · refine ⟨r, by split at r1 <;> omega, by split at r2 <;> omega, ?_⟩
    rw [new, if_pos (by split at r1 <;> omega)]
    exact r3
  · refine ⟨r + 1, by split at r1 <;> omega, by split at r2 <;> omega, ?_⟩
    rw [new, if_neg (by omega), if_neg (by omega)]
    exact r3
theorem LB_del {n : Nat} {T : Nat → Nat} (h : LB n T) {x : Nat} (hx : x < n) (hTx : T x = 0) (h2 : (∃ i, i < n ∧ 1 ≤ T i) → ∀ p z, p < x + 1 → x + 1 < z → z ≤ n + 1 → fen n T 1 p → fen n T 1 z → ∃ r, p < r ∧ r < z ∧ r ≠ x + 1 ∧ T (r - 1) = 0) : LB (n - 1) (delF T x) := by
  intro l hl hex q z hqz hz hq hzf
  have new : ∀ i, delF T x i = if i < x then T i else T (i + 1) := fun i => rfl
  have hex0 : ∃ i, i < n ∧ l ≤ T i := by
    obtain ⟨i, hi, hi2⟩ := hex
    rw [new] at hi2
    split at hi2
    · exact ⟨i, by omega, hi2⟩
    · exact ⟨i + 1, by omega, hi2⟩
  have back : ∀ w, w ≤ n → fen (n - 1) (delF T x) l w → fen n T l (if w ≤ x then w else w + 1) := by
    intro w hwn hw
    rcases hw with h0 | h0 | ⟨w1, w2, w3⟩
    · subst h0
      exact Or.inl (by simp)
    · subst h0
      refine Or.inr (Or.inl ?_)
      rw [if_neg (by omega)]
      omega
    · rw [new] at w3
      split at w3
      · refine Or.inr (Or.inr ?_)
        rw [if_pos (by omega)]
        exact ⟨w1, by omega, w3⟩
      · refine Or.inr (Or.inr ?_)
        rw [if_neg (by omega)]
        have e : w - 1 + 1 = w + 1 - 1 := by omega
        rw [e] at w3
        exact ⟨by omega, by omega, w3⟩
  have q2 := back q (by omega) hq
  have z2 := back z (by omega) hzf
  have fin : ∀ r, (if q ≤ x then q else q + 1) < r → r < (if z ≤ x then z else z + 1) → r ≠ x + 1 → T (r - 1) = l - 1 → ∃ r', q < r' ∧ r' < z ∧ delF T x (r' - 1) = l - 1 := by
    intro r r1 r2 rx r3
    by_cases hrp : r ≤ x
    · refine ⟨r, by split at r1 <;> omega, by split at r2 <;> omega, ?_⟩
      rw [new, if_pos (by split at r1 <;> omega)]
      exact r3
    · refine ⟨r - 1, by split at r1 <;> omega, by split at r2 <;> omega, ?_⟩
      rw [new, if_neg (by omega), show r - 1 - 1 + 1 = r - 1 by omega]
      exact r3
  obtain ⟨r, r1, r2, r3⟩ := h l hl hex0 (if q ≤ x then q else q + 1) (if z ≤ x then z else z + 1) (by split <;> split <;> omega) (by split <;> omega) q2 z2
  by_cases hrx : r = x + 1
  · subst hrx
    have e : x + 1 - 1 = x := by omega
    rw [e, hTx] at r3
    have hl1 : l = 1 := by omega
    subst hl1
    obtain ⟨r', s1, s2, s3, s4⟩ := h2 hex0 _ _ r1 r2 (by split <;> omega) q2 z2
    exact fin r' s1 s2 s3 s4
  · exact fin r r1 r2 hrx r3
