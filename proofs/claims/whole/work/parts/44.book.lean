/-! The model's pages copied. -/
def cpI (σ0 σc : Hp) (P Q a b i : Nat) : Prop := (∀ k, k ≠ P → σc.1 k = σ0.1 k) ∧ σc.2 = σ0.2 ∧ ∀ x, σc.1 P 0 x = if a ≤ x ∧ x < a + i then σ0.1 Q 0 (x - a + b) else σ0.1 P 0 x
theorem cpI.z (σ : Hp) (P Q a b : Nat) : cpI σ σ P Q a b 0 := ⟨fun _ _ => rfl, rfl, fun x => by rw [if_neg (by omega)]⟩
theorem cpI.s {σ0 σc : Hp} {P Q a b i : Nat} (h : cpI σ0 σc P Q a b i) (hPQ : P ≠ Q ∨ a ≤ b) : cpI σ0 (hset σc.1 P 0 (a + i) (σc.1 Q 0 (b + i)), σc.2) P Q a b (i + 1) := by
  obtain ⟨h1, h2, h3⟩ := h
  refine ⟨fun k q => ?_, h2, fun x => ?_⟩
  · show hset σc.1 P 0 (a + i) _ k = _
    rw [hk q, h1 k q]
  · show hset σc.1 P 0 (a + i) _ P 0 x = _
    by_cases hx : x = a + i
    · rw [hx, ix_eq0, if_pos (by omega), show a + i - a + b = b + i by omega]
      rcases hPQ with q | q
      · rw [h1 Q (fun e => q e.symm)]
      · by_cases e : Q = P
        · rw [e, h3, if_neg (by omega)]
        · rw [h1 Q e]
    · rw [hs_ne hx, h3]
      by_cases hy : a ≤ x ∧ x < a + i
      · rw [if_pos hy, if_pos (by omega)]
      · rw [if_neg hy, if_neg (by omega)]
theorem isPB.cp {σ σ' : Hp} {P Q a b : Nat} {B : BM} (h : isPB σ Q b B) (hs : szB B) (hc : ∀ x, x < 242 → σ'.1 P 0 (a + x) = σ.1 Q 0 (b + x)) : isPB σ' P a B := by
  obtain ⟨⟨h1, h2⟩, h3, h4⟩ := h
  obtain ⟨s1, s2⟩ := hs
  refine ⟨⟨?_, fun i hi => ?_⟩, ?_, fun i hi => ?_⟩
  · have := hc 0 (by decide)
    rw [Nat.add_zero, Nat.add_zero] at this
    rw [this, h1]
  · obtain ⟨q1, q2, q3⟩ := h2 i hi
    refine ⟨?_, ?_, ?_⟩
    · rw [Nat.add_assoc, hc _ (by omega), ← Nat.add_assoc, q1]
    · rw [Nat.add_assoc, hc _ (by omega), ← Nat.add_assoc, q2]
    · rw [Nat.add_assoc, hc _ (by omega), ← Nat.add_assoc, q3]
  · rw [hc _ (by decide), h3]
  · obtain ⟨q1, q2, q3⟩ := h4 i hi
    refine ⟨?_, ?_, ?_⟩
    · rw [Nat.add_assoc, Nat.add_assoc, hc _ (by omega), ← Nat.add_assoc, ← Nat.add_assoc, q1]
    · rw [Nat.add_assoc, Nat.add_assoc, hc _ (by omega), ← Nat.add_assoc, ← Nat.add_assoc, q2]
    · rw [Nat.add_assoc, Nat.add_assoc, hc _ (by omega), ← Nat.add_assoc, ← Nat.add_assoc, q3]
theorem cpI.at {σ σ' : Hp} {P Q a b n : Nat} (h : cpI σ σ' P Q a b n) : ∀ x, x < n → σ'.1 P 0 (a + x) = σ.1 Q 0 (b + x) := fun x hx => by
  rw [h.2.2, if_pos (by omega), show a + x - a + b = b + x by omega]
theorem cpI.out {σ σ' : Hp} {P Q a b n : Nat} (h : cpI σ σ' P Q a b n) : ∀ x, x < a ∨ a + n ≤ x → σ'.1 P 0 x = σ.1 P 0 x := fun x hx => by
  rw [h.2.2, if_neg (by omega)]
/-- the model's own scratch alone has changed -/
def frT (σ σ' : Hp) : Prop := (∀ k i, k ≠ 6 → k ≠ 19 → k ≠ 20 → k ≠ 22 → σ'.1 k i = σ.1 k i) ∧ (∀ s, s = 2 ∨ s = 11 ∨ s = 14 ∨ 23 ≤ s → σ'.1 6 0 s = σ.1 6 0 s) ∧ σ'.2 = σ.2
theorem frT.rf (σ : Hp) : frT σ σ := ⟨fun _ _ _ _ _ _ => rfl, fun _ _ => rfl, rfl⟩
theorem frT.tr {σ σ1 σ2 : Hp} (h : frT σ σ1) (h2 : frT σ1 σ2) : frT σ σ2 := ⟨fun k i q1 q2 q3 q4 => (h2.1 k i q1 q2 q3 q4).trans (h.1 k i q1 q2 q3 q4), fun s q => (h2.2.1 s q).trans (h.2.1 s q), h2.2.2.trans h.2.2⟩
theorem frS.t {σ σ' : Hp} (h : frS σ σ') : frT σ σ' := ⟨fun k i q _ _ _ => h.1 k i q, h.2.1, h.2.2⟩
theorem frP.t {mb : Nat} {σ σ' : Hp} (h : frP 22 mb σ σ') : frT σ σ' := ⟨fun k i q _ _ q2 => h.1 k i q (fun e => q2 e.1), h.2.1, h.2.2.1⟩
theorem cpI.t {σ σ' : Hp} {Q a b n : Nat} (h : cpI σ σ' 22 Q a b n) : frT σ σ' := ⟨fun k i q _ _ q2 => by rw [h.1 k q2], fun s _ => by rw [h.1 6 (by decide)], h.2.1⟩
theorem frT.c {σ σ' : Hp} (h : frT σ σ') : cEq σ σ' := ⟨fun k q => funext (fun i => h.1 k i (by omega) (by omega) (by omega) (by omega)), by rw [h.2.2], by rw [h.2.2]⟩
theorem MS.t {σ σ' : Hp} {S : SS} (h : MS σ S) (hf : frT σ σ') : MS σ' S := by
  have e : ∀ k, k ≠ 6 → k ≠ 19 → k ≠ 20 → k ≠ 22 → σ'.1 k = σ.1 k := fun k q1 q2 q3 q4 => funext (fun i => hf.1 k i q1 q2 q3 q4)
  unfold MS mAct mSlt mTxt mSgt isPB isP at h ⊢
  rw [hf.2.1 11 (by decide), hf.2.1 2 (by decide), hf.2.1 14 (by decide), e 18 (by decide) (by decide) (by decide) (by decide), e 21 (by decide) (by decide) (by decide) (by decide), e 23 (by decide) (by decide) (by decide) (by decide), e 24 (by decide) (by decide) (by decide) (by decide), e 25 (by decide) (by decide) (by decide) (by decide), e 26 (by decide) (by decide) (by decide) (by decide), e 27 (by decide) (by decide) (by decide) (by decide), e 28 (by decide) (by decide) (by decide) (by decide), hf.2.2]
  exact h
theorem ev_begin {σ : Hp} {B : BM} (hB : isPB σ 21 0 B) (hs : szB B) : Ev 129 [rMo] σ (fun r σ' => r = none ∧ isPB σ' 22 0 B ∧ frT σ σ') := by
  have loop : ∀ (n i : Nat) (xi : Int32) (σc : Hp), xi = nI i → i + n = 242 → cpI σ σc 22 21 0 0 i → RR 129 2 [some rMo, some (.inl xi)] [] σc (fun r σ' => r = none ∧ isPB σ' 22 0 B ∧ frT σ σ') := by
    intro n
    induction n with
    | zero =>
      intro i xi σc hx hi hc
      have hi : i = 242 := hi
      subst hi
      refine G_if rfl (fun q => ?_) (fun q => ?_)
      · exact G_ret rfl ⟨rfl, hB.cp hs hc.at, hc.t⟩
      · rw [hx] at q
        exact absurd (by decide) q
    | succ n ih =>
      intro i xi σc hx hi hc
      refine G_if rfl (fun q => ?_) (fun q => ?_)
      · rw [hx] at q
        exact absurd (ile (a := 242) q (by decide) (by omega)) (by omega)
      · refine G_ald rfl (0 + i) (by rw [hx, Nat.zero_add]) (by omega) (by decide) ?_
        refine G_ast rfl (0 + i) (by rw [hx, Nat.zero_add]) (by omega) (by decide) ?_
        refine G_to [2] rfl ?_
        exact ih (i + 1) _ _ (by rw [hx, nI_1]) (by omega) (hc.s (Or.inl (by decide)))
  refine G_to [2] rfl ?_
  exact loop 242 0 _ σ nI_0.symm rfl (cpI.z _ _ _ _ _)
theorem m242 (m : Nat) : (242 : Int32) * nI m = nI (242 * m) := by
  rw [show (242 : Int32) = nI 242 from rfl, pk_mul]
theorem ev_note2 {σ : Hp} {S : SS} (hM : MS σ S) (hS : SI S) : Ev 98 [rMo] σ (fun r σ' => r = none ∧ MS σ' (S.1, pushH S.2.1 S.1, S.2.2) ∧ cEq σ σ' ∧ (∀ k, k ≠ 6 → k ≠ 23 → σ'.1 k = σ.1 k) ∧ ∀ s, s ≠ 11 → σ'.1 6 0 s = σ.1 6 0 s) := by
  have hl := hS.2.1.1
  have l2 : ∀ (σ1 : Hp) (a : Nat), a < 14 → σ1.1 6 0 11 = nI a → ∀ (Q : Option PV → Hp → Prop), (∀ σe, cpI σ1 σe 23 21 (242 * a) 0 242 → RR 98 86 [some rMo, some (.inl (nI 242))] [] σe Q) → ∀ (n i : Nat) (xi : Int32) (σc : Hp), xi = nI i → i + n = 242 → cpI σ1 σc 23 21 (242 * a) 0 i → RR 98 52 [some rMo, some (.inl xi)] [] σc Q := by
    intro σ1 a ha h11 Q hQ n
    induction n with
    | zero =>
      intro i xi σc hx hi hc
      have hi : i = 242 := hi
      subst hi
      refine G_if rfl (fun q => ?_) (fun q => ?_)
      · rw [hx]
        exact hQ _ hc
      · rw [hx] at q
        exact absurd (by decide) q
    | succ n ih =>
      intro i xi σc hx hi hc
      have h11c : σc.1 6 0 11 = nI a := by rw [hc.1 6 (by decide), h11]
      refine G_if rfl (fun q => ?_) (fun q => ?_)
      · rw [hx] at q
        exact absurd (ile (a := 242) q (by decide) (by omega)) (by omega)
      · refine G_ald rfl (0 + i) (by rw [hx, Nat.zero_add]) (by omega) (by decide) ?_
        refine G_ast rfl (242 * a + i) (by rw [h11c, hx, m242, nI_add]) (by omega) (by decide) ?_
        refine G_to [52] rfl ?_
        exact ih (i + 1) _ _ (by rw [hx, nI_1]) (by omega) (hc.s (Or.inl (by decide)))
  have fin : ∀ (σ1 σe : Hp) (a : Nat), a < 14 → σ1.1 6 0 11 = nI a → isPB σ1 21 0 S.1 → a + 1 = min (S.2.1.1 + 1) 14 → (∀ k, k ≠ 6 → k ≠ 23 → σ1.1 k = σ.1 k) → (∀ s, s ≠ 11 → σ1.1 6 0 s = σ.1 6 0 s) → σ1.2 = σ.2 → (∀ h, h < a → isPB σ1 23 (242 * (a - 1 - h)) (S.2.1.2 h)) → cpI σ1 σe 23 21 (242 * a) 0 242 → RR 98 86 [some rMo, some (.inl (nI 242))] [] σe (fun r σ' => r = none ∧ MS σ' (S.1, pushH S.2.1 S.1, S.2.2) ∧ cEq σ σ' ∧ (∀ k, k ≠ 6 → k ≠ 23 → σ'.1 k = σ.1 k) ∧ ∀ s, s ≠ 11 → σ'.1 6 0 s = σ.1 6 0 s) := by
    intro σ1 σe a ha h11 hB hmin e1 e6 e2 hH hc
    have h11e : σe.1 6 0 11 = nI a := by rw [hc.1 6 (by decide), h11]
    have ee : ∀ k v, k ≠ 6 → k ≠ 23 → hset σe.1 6 0 11 v k = σ.1 k := fun k v q1 q2 => by rw [hk q1, hc.1 k q2, e1 k q1 q2]
    have e6e : ∀ v s, s ≠ 11 → hset σe.1 6 0 11 v 6 0 s = σ.1 6 0 s := fun v s q => by rw [hs_ne q, hc.1 6 (by decide), e6 s q]
    have hce : ∀ v, cEq σ (hset σe.1 6 0 11 v, σe.2) := fun v => ⟨fun k q => ee k v (by omega) (by omega), by show σe.2.1 5 = _; rw [hc.2.1, e2], by show σe.2.2 = _; rw [hc.2.1, e2]⟩
    refine G_ret rfl ⟨rfl, ?_, hce _, fun k q1 q2 => ee k _ q1 q2, fun s q => e6e _ s q⟩
    have hR : ∀ v h, h < a + 1 → isPB (hset σe.1 6 0 11 v, σe.2) 23 (242 * (a + 1 - 1 - h)) ((pushH S.2.1 S.1).2 h) := by
      intro v h hh
      cases h with
      | zero =>
        refine isPB.cp (σ := σ1) (Q := 21) (b := 0) hB hS.1.sz (fun x hx => ?_)
        show σe.1 23 0 _ = _
        rw [show a + 1 - 1 - 0 = a by omega]
        exact hc.at x hx
      | succ h =>
        refine isPB.cp (hH h (by omega)) (hS.2.1.2 h (by omega)).sz (fun x hx => ?_)
        show σe.1 23 0 _ = _
        rw [show a + 1 - 1 - (h + 1) = a - 1 - h by omega]
        exact hc.out _ (Or.inl (by omega))
    refine ⟨?_, ⟨?_, ?_⟩, fun k hk2 => ⟨?_, fun B hb => ?_⟩, ?_, ?_, ?_⟩
    · have := hM.1
      unfold isPB isP at this ⊢
      simp only [ee 21 _ (by decide) (by decide)]
      exact this
    · show σe.1 6 0 11 + 1 = nI (min (S.2.1.1 + 1) 14)
      rw [h11e, nI_1, hmin]
    · intro h hh
      have hh : h < min (S.2.1.1 + 1) 14 := hh
      have := hR (σe.1 6 0 11 + 1) h (by omega)
      rw [hmin] at this
      exact this
    · show σe.1 25 0 k = _
      rw [hc.1 25 (by decide), e1 25 (by decide) (by decide)]
      exact (hM.2.2.1 k hk2).1
    · have := (hM.2.2.1 k hk2).2 B hb
      unfold isPB isP at this ⊢
      simp only [ee 24 _ (by decide) (by decide)]
      exact this
    · have := hM.2.2.2.1
      unfold mTxt at this ⊢
      simp only [ee 18 _ (by decide) (by decide), e6e _ 2 (by decide)]
      exact this
    · have := hM.2.2.2.2.1
      unfold mSgt at this ⊢
      simp only [ee 26 _ (by decide) (by decide), ee 27 _ (by decide) (by decide), ee 28 _ (by decide) (by decide), e6e _ 14 (by decide)]
      exact this
    · show σe.2.1 6 = _
      rw [hc.2.1, e2]
      exact hM.2.2.2.2.2
  refine G_if rfl (fun q => ?_) (fun q => ?_)
  · have hlt : S.2.1.1 < 14 := by
      rw [hM.2.1.1] at q
      rcases Nat.lt_or_ge S.2.1.1 14 with h | h
      · exact h
      · exact absurd (by rw [show S.2.1.1 = 14 by omega]; rfl) q
    refine G_to [52] rfl ?_
    exact l2 σ S.2.1.1 hlt hM.2.1.1 _ (fun σe hc => fin σ σe S.2.1.1 hlt hM.2.1.1 hM.1 (by omega) (fun _ _ _ => rfl) (fun _ _ => rfl) rfl hM.2.1.2 hc) 242 0 _ σ nI_0.symm rfl (cpI.z _ _ _ _ _)
  · have heq : S.2.1.1 = 14 := by
      have q := Classical.not_not.mp q
      rw [hM.2.1.1] at q
      exact ieq (b := 14) q (by omega) (by decide)
    have l1 : ∀ (n i : Nat) (xi : Int32) (σc : Hp), xi = nI i → i + n = 3146 → cpI σ σc 23 23 0 242 i → RR 98 11 [some rMo, some (.inl xi)] [] σc (fun r σ' => r = none ∧ MS σ' (S.1, pushH S.2.1 S.1, S.2.2) ∧ cEq σ σ' ∧ (∀ k, k ≠ 6 → k ≠ 23 → σ'.1 k = σ.1 k) ∧ ∀ s, s ≠ 11 → σ'.1 6 0 s = σ.1 6 0 s) := by
      intro n
      induction n with
      | zero =>
        intro i xi σc hx hi hc
        have hi : i = 3146 := hi
        subst hi
        refine G_if rfl (fun q => ?_) (fun q => ?_)
        · refine G_to [52] rfl ?_
          have h11 : σc.1 6 0 11 - 1 = nI 13 := by rw [hc.1 6 (by decide), hM.2.1.1, heq]; rfl
          rw [h11]
          have hcf : ∀ x, x < 3146 → σc.1 23 0 (0 + x) = σ.1 23 0 (242 + x) := hc.at
          refine l2 (hset σc.1 6 0 11 (nI 13), σc.2) 13 (by decide) rfl _ (fun σe hc2 => fin _ σe 13 (by decide) rfl ?_ (by omega) ?_ ?_ ?_ ?_ hc2) 242 0 _ _ nI_0.symm rfl (cpI.z _ _ _ _ _)
          · refine isPB.cp hM.1 hS.1.sz (fun x hx => ?_)
            show σc.1 21 0 _ = _
            rw [hc.1 21 (by decide)]
          · intro k q1 q2
            show hset σc.1 6 0 11 (nI 13) k = _
            rw [hk q1, hc.1 k q2]
          · intro s q1
            show hset σc.1 6 0 11 (nI 13) 6 0 s = _
            rw [hs_ne q1, hc.1 6 (by decide)]
          · exact hc.2.1
          · intro h hh
            refine isPB.cp (hM.2.1.2 h (by omega)) (hS.2.1.2 h (by omega)).sz (fun x hx => ?_)
            show σc.1 23 0 _ = _
            have := hcf (242 * (13 - 1 - h) + x) (by omega)
            rw [Nat.zero_add] at this
            rw [this, heq, show 242 + (242 * (13 - 1 - h) + x) = 242 * (14 - 1 - h) + x by omega]
        · rw [hx] at q
          exact absurd (by decide) q
      | succ n ih =>
        intro i xi σc hx hi hc
        refine G_if rfl (fun q => ?_) (fun q => ?_)
        · rw [hx] at q
          exact absurd (ile (a := 3146) q (by decide) (by omega)) (by omega)
        · refine G_ald rfl (242 + i) (by rw [hx, show (242 : Int32) = nI 242 from rfl, nI_add, Nat.add_comm]) (by omega) (by decide) ?_
          refine G_ast rfl (0 + i) (by rw [hx, Nat.zero_add]) (by omega) (by decide) ?_
          refine G_to [11] rfl ?_
          exact ih (i + 1) _ _ (by rw [hx, nI_1]) (by omega) (hc.s (Or.inr (by decide)))
    refine G_to [11] rfl ?_
    exact l1 3146 0 _ σ nI_0.symm rfl (cpI.z _ _ _ _ _)
theorem ev_note {σ : Hp} {S : SS} (hM : MS σ S) (hS : SI S) : Ev 98 [rMo] σ (fun r σ' => r = none ∧ MS σ' (S.1, pushH S.2.1 S.1, S.2.2) ∧ cEq σ σ') := (ev_note2 hM hS).mono (fun _ _ h => ⟨h.1, h.2.1, h.2.2.1⟩)
/-- the model's own scratch, its best keys, gains and values too -/
def frW (σ σ' : Hp) : Prop := (∀ k i, k ≠ 6 → k ≠ 19 → k ≠ 20 → k ≠ 22 → k ≠ 29 → k ≠ 30 → σ'.1 k i = σ.1 k i) ∧ (∀ s, s = 2 ∨ s = 11 ∨ s = 14 → σ'.1 6 0 s = σ.1 6 0 s) ∧ σ'.2 = σ.2
theorem frT.w {σ σ' : Hp} (h : frT σ σ') : frW σ σ' := ⟨fun k i q1 q2 q3 q4 _ _ => h.1 k i q1 q2 q3 q4, fun s q => h.2.1 s (by omega), h.2.2⟩
theorem frW.rf (σ : Hp) : frW σ σ := (frT.rf σ).w
theorem frW.tr {σ σ1 σ2 : Hp} (h : frW σ σ1) (h2 : frW σ1 σ2) : frW σ σ2 := ⟨fun k i q1 q2 q3 q4 q5 q6 => (h2.1 k i q1 q2 q3 q4 q5 q6).trans (h.1 k i q1 q2 q3 q4 q5 q6), fun s q => (h2.2.1 s q).trans (h.2.1 s q), h2.2.2.trans h.2.2⟩
theorem frW.c {σ σ' : Hp} (h : frW σ σ') : cEq σ σ' := ⟨fun k q => funext (fun i => h.1 k i (by omega) (by omega) (by omega) (by omega) (by omega) (by omega)), by rw [h.2.2], by rw [h.2.2]⟩
theorem frW.x {σ σ1 : Hp} {s : Nat} {v : Int32} (h : frW σ σ1) (hs : s ≠ 2 ∧ s ≠ 11 ∧ s ≠ 14) : frW σ (hset σ1.1 6 0 s v, σ1.2) := by
  refine ⟨fun k i q1 q2 q3 q4 q5 q6 => ?_, fun s' q => ?_, h.2.2⟩
  · show hset σ1.1 6 0 s v k i = _
    rw [hk q1]
    exact h.1 k i q1 q2 q3 q4 q5 q6
  · show hset σ1.1 6 0 s v 6 0 s' = _
    rw [hs_ne (by omega)]
    exact h.2.1 s' q
theorem frW.y {σ σ1 : Hp} {k i s : Nat} {v : Int32} (h : frW σ σ1) (hk0 : k = 22 ∨ k = 29 ∨ k = 30) : frW σ (hset σ1.1 k i s v, σ1.2) := by
  refine ⟨fun k' i' q1 q2 q3 q4 q5 q6 => ?_, fun s' q => ?_, h.2.2⟩
  · show hset σ1.1 k i s v k' i' = _
    rw [hk (by omega)]
    exact h.1 k' i' q1 q2 q3 q4 q5 q6
  · show hset σ1.1 k i s v 6 0 s' = _
    rw [hk (by omega)]
    exact h.2.1 s' q
theorem MS.w {σ σ' : Hp} {S : SS} (h : MS σ S) (hf : frW σ σ') : MS σ' S := by
  have e : ∀ k, k ≠ 6 → k ≠ 19 → k ≠ 20 → k ≠ 22 → k ≠ 29 → k ≠ 30 → σ'.1 k = σ.1 k := fun k q1 q2 q3 q4 q5 q6 => funext (fun i => hf.1 k i q1 q2 q3 q4 q5 q6)
  unfold MS mAct mSlt mTxt mSgt isPB isP at h ⊢
  rw [hf.2.1 11 (by decide), hf.2.1 2 (by decide), hf.2.1 14 (by decide), e 18 (by decide) (by decide) (by decide) (by decide) (by decide) (by decide), e 21 (by decide) (by decide) (by decide) (by decide) (by decide) (by decide), e 23 (by decide) (by decide) (by decide) (by decide) (by decide) (by decide), e 24 (by decide) (by decide) (by decide) (by decide) (by decide) (by decide), e 25 (by decide) (by decide) (by decide) (by decide) (by decide) (by decide), e 26 (by decide) (by decide) (by decide) (by decide) (by decide) (by decide), e 27 (by decide) (by decide) (by decide) (by decide) (by decide) (by decide), e 28 (by decide) (by decide) (by decide) (by decide) (by decide) (by decide), hf.2.2]
  exact h
