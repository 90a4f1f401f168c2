/-! Heights: between any two fences of a level lies one of the next height below. Positions: 0 the left end, i + 1 the item i, n + 1 the right end. -/
def fen (n : Nat) (T : Nat → Nat) (l p : Nat) : Prop := p = 0 ∨ p = n + 1 ∨ (1 ≤ p ∧ p ≤ n ∧ l ≤ T (p - 1))
def LB (n : Nat) (T : Nat → Nat) : Prop := ∀ l, 1 ≤ l → (∃ i, i < n ∧ l ≤ T i) → ∀ p q, p < q → q ≤ n + 1 → fen n T l p → fen n T l q → ∃ r, p < r ∧ r < q ∧ T (r - 1) = l - 1
theorem LB_low {n : Nat} {T : Nat → Nat} (h : LB n T) {i : Nat} (hi : i < n) (h1 : 0 < T i) : i + 1 < n ∧ T (i + 1) = 0 := by
  obtain ⟨r, hr1, hr2, hr3⟩ := h 1 (Nat.le_refl _) ⟨i, hi, h1⟩ (i + 1) (n + 1) (by omega) (Nat.le_refl _) (Or.inr (Or.inr ⟨by omega, by omega, h1⟩)) (Or.inr (Or.inl rfl))
  refine ⟨by omega, ?_⟩
  rcases Nat.eq_zero_or_pos (T (i + 1)) with h0 | h0
  · exact h0
  · obtain ⟨r2, h3, h4, -⟩ := h 1 (Nat.le_refl _) ⟨i, hi, h1⟩ (i + 1) (i + 2) (by omega) (by omega) (Or.inr (Or.inr ⟨by omega, by omega, h1⟩)) (Or.inr (Or.inr ⟨by omega, by omega, h0⟩))
    omega
def geC (T : Nat → Nat) (l : Nat) : Nat → Nat
  | 0 => 0
  | n + 1 => geC T l n + (if l ≤ T n then 1 else 0)
theorem geC_mono (T : Nat → Nat) (l : Nat) : ∀ n, geC T (l + 1) n ≤ geC T l n
  | 0 => Nat.le_refl _
  | n + 1 => by
    have := geC_mono T l n
    simp only [geC]
    split <;> split <;> omega
theorem geC_lt (T : Nat → Nat) (l : Nat) : ∀ n, (∃ i, i < n ∧ T i = l) → geC T (l + 1) n + 1 ≤ geC T l n
  | 0, h => by obtain ⟨i, hi, -⟩ := h; omega
  | n + 1, h => by
    obtain ⟨i, hi, hT⟩ := h
    simp only [geC]
    by_cases hin : i = n
    · subst hin
      have := geC_mono T l i
      rw [if_neg (by omega), if_pos (by omega)]
      omega
    · have := geC_lt T l n ⟨i, by omega, hT⟩
      split <;> split <;> omega
theorem geC_le (T : Nat → Nat) (l : Nat) : ∀ n, geC T l n ≤ n
  | 0 => Nat.le_refl _
  | n + 1 => by
    have := geC_le T l n
    simp only [geC]
    split <;> omega
theorem geC_pos (T : Nat → Nat) (l : Nat) : ∀ n i, i < n → l ≤ T i → 1 ≤ geC T l n
  | 0, i, h, _ => by omega
  | n + 1, i, h, h2 => by
    simp only [geC]
    by_cases hin : i = n
    · subst hin
      rw [if_pos h2]
      omega
    · have := geC_pos T l n i (by omega) h2
      omega
theorem LB_bound {n : Nat} {T : Nat → Nat} (h : LB n T) {i : Nat} (hi : i < n) : T i < n := by
  have key : ∀ d l, l + d = T i → geC T l n ≥ 1 + d := by
    intro d
    induction d with
    | zero =>
      intro l hl
      have := geC_pos T l n i hi (by omega)
      omega
    | succ d ih =>
      intro l hl
      have h1 := ih (l + 1) (by omega)
      obtain ⟨r, hr1, hr2, hr3⟩ := h (l + 1) (by omega) ⟨i, hi, by omega⟩ 0 (n + 1) (by omega) (Nat.le_refl _) (Or.inl rfl) (Or.inr (Or.inl rfl))
      have h2 := geC_lt T l n ⟨r - 1, by omega, by simpa using hr3⟩
      omega
  have h1 := key (T i) 0 (by omega)
  have h2 := geC_le T 0 n
  omega
/-- a fence goes down, its neighbour's nearest comes up -/
theorem LB_move {n : Nat} {T : Nat → Nat} (h : LB n T) {l f q : Nat} (hl : 1 ≤ l) (hf : f < n) (hq : q < n) (hTf : T f = l) (hTq : T q = l - 1)
    (h2 : ∀ z, z ≤ n + 1 → fen n T l z → (f < q → q + 1 < z → ∃ r, q + 1 < r ∧ r < z ∧ T (r - 1) = l - 1) ∧ (q < f → z < q + 1 → ∃ r, z < r ∧ r < q + 1 ∧ T (r - 1) = l - 1))
    (h3 : ∀ z, z < n → l ≤ T z → ¬ (f < z ∧ z < q) ∧ ¬ (q < z ∧ z < f)) : LB n (upN (upN T q l) f (l - 1)) := by
  have hne : f ≠ q := by intro e; rw [e] at hTf; omega
  have hT' : ∀ i, i ≠ f → i ≠ q → upN (upN T q l) f (l - 1) i = T i := by intro i h1 h2; simp [upN, h1, h2]
  have hT'f : upN (upN T q l) f (l - 1) f = l - 1 := by simp [upN]
  have hT'q : upN (upN T q l) f (l - 1) q = l := by simp [upN, Ne.symm hne]
  generalize upN (upN T q l) f (l - 1) = T' at hT' hT'f hT'q
  intro l' hl' hex p z hpz hz hp hzf
  have hfq := Nat.lt_or_gt_of_ne hne
  -- the level is in T too
  have hex0 : ∃ i, i < n ∧ l' ≤ T i := by
    obtain ⟨i, hi, hi2⟩ := hex
    by_cases h1 : i = f
    · subst h1
      exact ⟨i, hi, by omega⟩
    · by_cases h1' : i = q
      · subst h1'
        exact ⟨f, hf, by omega⟩
      · rw [hT' i h1 h1'] at hi2
        exact ⟨i, hi, hi2⟩
  rcases Nat.lt_trichotomy l' l with hll | hll | hll
  · -- lower levels: fences and items as before
    have hfe : ∀ w, fen n T' l' w → fen n T l' w := by
      intro w hw
      rcases hw with h0 | h0 | ⟨w1, w2, w3⟩
      · exact Or.inl h0
      · exact Or.inr (Or.inl h0)
      · refine Or.inr (Or.inr ⟨w1, w2, ?_⟩)
        by_cases e1 : w - 1 = f
        · rw [e1]; omega
        · by_cases e2 : w - 1 = q
          · rw [e2]; omega
          · rw [← hT' _ e1 e2]; exact w3
    obtain ⟨r, r1, r2, r3⟩ := h l' hl' hex0 p z hpz hz (hfe p hp) (hfe z hzf)
    refine ⟨r, r1, r2, ?_⟩
    rw [hT' _ (by intro e; rw [e] at r3; omega) (by intro e; rw [e] at r3; omega)]
    exact r3
  · subst hll
    -- a fence of T' is one of T but f, or is q
    have hfe : ∀ w, w ≤ n + 1 → fen n T' l' w → (fen n T l' w ∧ w ≠ f + 1 ∧ w ≠ q + 1) ∨ w = q + 1 := by
      intro w hwn hw
      rcases hw with h0 | h0 | ⟨w1, w2, w3⟩
      · exact Or.inl ⟨Or.inl h0, by omega, by omega⟩
      · exact Or.inl ⟨Or.inr (Or.inl h0), by omega, by omega⟩
      · by_cases e1 : w = f + 1
        · rw [e1] at w3
          have : f + 1 - 1 = f := by omega
          rw [this, hT'f] at w3
          omega
        · by_cases e2 : w = q + 1
          · exact Or.inr e2
          · rw [hT' (w - 1) (by omega) (by omega)] at w3
            exact Or.inl ⟨Or.inr (Or.inr ⟨w1, w2, w3⟩), e1, e2⟩
    -- a fence of T between f and q there is none
    have hno : ∀ w, w ≤ n + 1 → fen n T l' w → w ≠ f + 1 → w ≠ q + 1 → ¬ (f + 1 < w ∧ w < q + 1) ∧ ¬ (q + 1 < w ∧ w < f + 1) := by
      intro w hwn hw e1 e2
      rcases hw with h0 | h0 | ⟨w1, w2, w3⟩
      · omega
      · omega
      · have := h3 (w - 1) (by omega) w3
        omega
    have hf' : T' (f + 1 - 1) = l' - 1 := by simpa using hT'f
    have fix : ∀ r, T (r - 1) = l' - 1 → 1 ≤ r → r ≠ q + 1 → T' (r - 1) = l' - 1 := by
      intro r hr h1 hrq
      rw [hT' (r - 1) (by intro e; rw [e] at hr; omega) (by omega)]
      exact hr
    rcases hfe p (by omega) hp with ⟨a1, a2, a3⟩ | a1 <;> rcases hfe z hz hzf with ⟨b1, b2, b3⟩ | b1
    · obtain ⟨r, r1, r2, r3⟩ := h l' hl' hex0 p z hpz hz a1 b1
      by_cases hrq : r = q + 1
      · subst hrq
        rcases hfq with hfq | hfq
        · obtain ⟨r', s1, s2, s3⟩ := (h2 z hz b1).1 hfq r2
          exact ⟨r', by omega, s2, fix r' s3 (by omega) (by omega)⟩
        · obtain ⟨r', s1, s2, s3⟩ := (h2 p (by omega) a1).2 hfq r1
          exact ⟨r', s1, by omega, fix r' s3 (by omega) (by omega)⟩
      · exact ⟨r, r1, r2, fix r r3 (by omega) hrq⟩
    · subst b1
      have hn1 := hno p (by omega) a1 a2 a3
      rcases hfq with hfq | hfq
      · exact ⟨f + 1, by omega, by omega, hf'⟩
      · obtain ⟨r', s1, s2, s3⟩ := (h2 p (by omega) a1).2 hfq hpz
        exact ⟨r', s1, s2, fix r' s3 (by omega) (by omega)⟩
    · subst a1
      have hn1 := hno z hz b1 b2 b3
      rcases hfq with hfq | hfq
      · obtain ⟨r', s1, s2, s3⟩ := (h2 z hz b1).1 hfq hpz
        exact ⟨r', s1, s2, fix r' s3 (by omega) (by omega)⟩
      · exact ⟨f + 1, by omega, by omega, hf'⟩
    · omega
  · -- higher levels
    have hfe : ∀ w, fen n T' l' w → fen n T l' w ∧ w ≠ f + 1 ∧ w ≠ q + 1 := by
      intro w hw
      rcases hw with h0 | h0 | ⟨w1, w2, w3⟩
      · exact ⟨Or.inl h0, by omega, by omega⟩
      · exact ⟨Or.inr (Or.inl h0), by omega, by omega⟩
      · have e1 : w - 1 ≠ f := by intro e; rw [e] at w3; omega
        have e2 : w - 1 ≠ q := by intro e; rw [e] at w3; omega
        rw [hT' _ e1 e2] at w3
        exact ⟨Or.inr (Or.inr ⟨w1, w2, w3⟩), by omega, by omega⟩
    obtain ⟨a1, a2, a3⟩ := hfe p hp
    obtain ⟨b1, b2, b3⟩ := hfe z hzf
    obtain ⟨r, r1, r2, r3⟩ := h l' hl' hex0 p z hpz hz a1 b1
    by_cases hrf : r = f + 1
    · subst hrf
      have hll1 : l' = l + 1 := by
        have : f + 1 - 1 = f := by omega
        rw [this] at r3
        omega
      subst hll1
      have low : ∀ w, fen n T (l + 1) w → w ≠ 0 → w ≠ n + 1 → 1 ≤ w ∧ w ≤ n ∧ l ≤ T (w - 1) := by
        intro w hw w0 wn
        rcases hw with h0 | h0 | ⟨w1, w2, w3⟩
        · exact absurd h0 w0
        · exact absurd h0 wn
        · exact ⟨w1, w2, by omega⟩
      refine ⟨q + 1, ?_, ?_, by simpa using hT'q⟩
      · rcases hfq with hfq | hfq
        · omega
        · by_cases hp0 : p = 0
          · omega
          · obtain ⟨w1, w2, w3⟩ := low p a1 hp0 (by omega)
            have := h3 (p - 1) (by omega) w3
            omega
      · rcases hfq with hfq | hfq
        · by_cases hzn : z = n + 1
          · omega
          · obtain ⟨w1, w2, w3⟩ := low z b1 (by omega) hzn
            have := h3 (z - 1) (by omega) w3
            omega
        · omega
    · refine ⟨r, r1, r2, ?_⟩
      rw [hT' _ (by omega) (by intro e; rw [e] at r3; omega)]
      exact r3
/-- a fence goes down: its gap and the next are joined -/
theorem LB_merge {n : Nat} {T : Nat → Nat} (h : LB n T) {l f : Nat} (hl : 1 ≤ l) (hf : f < n) (hTf : T f = l)
    (h2 : (∃ i, i < n ∧ l + 1 ≤ T i) → ∀ p z, p < z → z ≤ n + 1 → fen n T (l + 1) p → fen n T (l + 1) z → p < f + 1 → f + 1 < z → ∃ r, p < r ∧ r < z ∧ r ≠ f + 1 ∧ T (r - 1) = l) : LB n (upN T f (l - 1)) := by
  have hT' : ∀ i, i ≠ f → upN T f (l - 1) i = T i := by intro i h1; simp [upN, h1]
  have hT'f : upN T f (l - 1) f = l - 1 := by simp [upN]
  generalize upN T f (l - 1) = T' at hT' hT'f
  intro l' hl' hex p z hpz hz hp hzf
  have hex0 : ∃ i, i < n ∧ l' ≤ T i := by
    obtain ⟨i, hi, hi2⟩ := hex
    by_cases h1 : i = f
    · subst h1
      exact ⟨i, hi, by omega⟩
    · rw [hT' i h1] at hi2
      exact ⟨i, hi, hi2⟩
  have hfe : ∀ w, fen n T' l' w → fen n T l' w := by
    intro w hw
    rcases hw with h0 | h0 | ⟨w1, w2, w3⟩
    · exact Or.inl h0
    · exact Or.inr (Or.inl h0)
    · refine Or.inr (Or.inr ⟨w1, w2, ?_⟩)
      by_cases e1 : w - 1 = f
      · rw [e1] at w3 ⊢; omega
      · rw [← hT' _ e1]; exact w3
  obtain ⟨r, r1, r2, r3⟩ := h l' hl' hex0 p z hpz hz (hfe p hp) (hfe z hzf)
  by_cases hrf : r = f + 1
  · subst hrf
    have e : f + 1 - 1 = f := by omega
    rw [e] at r3
    have hl1 : l' = l + 1 := by omega
    subst hl1
    obtain ⟨r', s1, s2, s3, s4⟩ := h2 hex0 p z hpz hz (hfe p hp) (hfe z hzf) r1 r2
    refine ⟨r', s1, s2, ?_⟩
    rw [hT' _ (by omega)]
    exact s4
  · refine ⟨r, r1, r2, ?_⟩
    rw [hT' _ (by omega)]
    exact r3
