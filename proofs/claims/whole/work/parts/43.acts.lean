/-! Acts, both maps copied. -/
theorem jr {a d : Nat} (ha : a < 2147483648) (h0 : 0 < d) (hd : d < 2147483648) : jrem (nI a) (nI d) = nI (a % d) := pk_rem ha h0 hd
def frB (b : Nat) (σ σ' : Hp) : Prop := (∀ k i, ¬ ((i = 2 * b ∨ i = 2 * b + 1) ∧ (k = 2 ∨ k = 7 ∨ k = 8 ∨ k = 9)) → σ'.1 k i = σ.1 k i) ∧ σ'.2 = σ.2
theorem frB.m {b : Nat} {σ σ' : Hp} (h : frB b σ σ') : mEq σ σ' := ⟨fun k q => by
  funext i
  exact h.1 k i (fun q2 => by omega), by rw [h.2], by rw [h.2]⟩
theorem frB.b {b b' : Nat} {σ σ' : Hp} {B : BM} (h : frB b σ σ') (hb : b' ≠ b) (hB : isB σ b' B) : isB σ' b' B := by
  have e : ∀ k i, ¬ (i = 2 * b ∨ i = 2 * b + 1) → σ'.1 k i = σ.1 k i := fun k i q => h.1 k i (fun q2 => q q2.1)
  unfold isB isI at hB ⊢
  rw [e 2 (2 * b') (by omega), e 7 (2 * b') (by omega), e 8 (2 * b') (by omega), e 9 (2 * b') (by omega), e 2 (2 * b' + 1) (by omega), e 7 (2 * b' + 1) (by omega), e 8 (2 * b' + 1) (by omega), e 9 (2 * b' + 1) (by omega)]
  exact hB
def szB (B : BM) : Prop := B.1.1 ≤ 40 ∧ B.2.1 ≤ 40
theorem InvB.sz {B : BM} (h : InvB B) : szB B := ⟨h.1.1.1, h.2.1.1⟩
theorem ev_bcopy {σ : Hp} {b bf : Nat} {B : BM} (hB : isB σ bf B) (hn : szB B) (hb : bf ≠ b) : Ev 2 [rB b, rB bf] σ (fun r σ' => r = none ∧ isB σ' b B ∧ frB b σ σ') := by
  refine G_call rfl (ev_copyFrom (j := 2 * b) (jf := 2 * bf) hB.1 hn.1 (by omega)) ?_
  rintro r1 σ1 ⟨rfl, h1, f1⟩
  refine G_call rfl (ev_copyFrom (j := 2 * b + 1) (jf := 2 * bf + 1) (f1.is (by omega) hB.2) hn.2 (by omega)) ?_
  rintro r1 σ2 ⟨rfl, h2, f2⟩
  exact G_ret rfl ⟨rfl, ⟨f2.is (by omega) h1, h2⟩, ⟨fun k i q => (f2.1 k i (fun q2 => q ⟨Or.inr q2.1, q2.2⟩)).trans (f1.1 k i (fun q2 => q ⟨Or.inl q2.1, q2.2⟩)), f2.2.trans f1.2⟩⟩
theorem ev_bitems {σ : Hp} {b : Nat} {B : BM} (hB : isB σ b B) : Ev 4 [rB b] σ (fun r σ' => r = some (.inl (nI (B.1.1 + B.2.1))) ∧ σ' = σ) := by
  refine G_ret rfl ⟨?_, rfl⟩
  rw [hB.1.1, hB.2.1, nI_add]
def pushH (H : Nat × (Nat → BM)) (B : BM) : Nat × (Nat → BM) := (min (H.1 + 1) 14, fun h => match h with
  | 0 => B
  | h + 1 => H.2 h)
theorem ix_eq0 {f : Nat → Nat → Nat → Int32} {a b c : Nat} {v : Int32} : hset f a b c v a b c = v := by simp [hset]
theorem hs_ne {f : Nat → Nat → Nat → Int32} {a b c c' : Nat} {v : Int32} (h : c' ≠ c) : hset f a b c v a b c' = f a b c' := by simp [hset, h]
theorem hs21 {f : Nat → Nat → Nat → Int32} {v w : Int32} : hset (hset f 0 0 1 v) 0 0 2 w 0 0 1 = v := by simp [hset]
/-- only Acts' numbers and Both 2 .. 15 have changed -/
theorem ev_remember {σ : Hp} {S : SS} (hC : CS σ S) (hS : SI S) : Ev 0 [.inr (.inr (0, 0)), rB 0] σ (fun r σ' => r = none ∧ CS σ' (S.1, pushH S.2.1 S.1, S.2.2) ∧ mEq σ σ') := by
  obtain ⟨nx, a1, a2, a3, a4⟩ := id hC.2.1
  have hl := hS.2.1.1
  refine G_ald rfl nx (by rw [a2]) (by omega) (by decide) ?_
  refine G_call rfl (ev_bcopy (b := 2 + nx) hC.1 hS.1.sz (by omega)) ?_
  rintro r1 σ1 ⟨rfl, h1, f1⟩
  have e0 : σ1.1 0 = σ.1 0 := funext (fun i => f1.1 0 i (by omega))
  refine G_div rfl (by decide) ?_
  rw [show σ1.1 0 0 1 = nI nx by rw [e0, a2], nI_1, show (14 : Int32) = nI 14 from rfl, jr (by omega) (by decide) (by decide)]
  refine G_ret rfl ⟨rfl, ?_, ?_⟩
  · have ek : ∀ k, k ≠ 0 → ∀ v w, hset (hset σ1.1 0 0 1 v) 0 0 2 w k = σ1.1 k := fun k q v w => by rw [hk q, hk q]
    have eo : ∀ k, k ≠ 2 → k ≠ 7 → k ≠ 8 → k ≠ 9 → σ1.1 k = σ.1 k := fun k q1 q2 q3 q4 => funext (fun i => f1.1 k i (by omega))
    have eB : ∀ (v w : Int32) b B, isB σ1 b B → isB (hset (hset σ1.1 0 0 1 v) 0 0 2 w, σ1.2) b B := fun v w b B q => by
      unfold isB isI at q ⊢
      simp only [ek 2 (by decide), ek 7 (by decide), ek 8 (by decide), ek 9 (by decide)]
      exact q
    refine ⟨eB _ _ _ _ (f1.b (by omega) hC.1), ⟨(nx + 1) % 14, by omega, ?_, ?_, fun h hh => eB _ _ _ _ ?_⟩, fun k hk2 => ⟨?_, fun B hB => eB _ _ _ _ (f1.b (by omega) ((hC.2.2.1 k hk2).2 B hB))⟩, ?_, ?_, ?_⟩
    · rfl
    · show (if (14 : Int32) < σ1.1 0 0 2 + 1 then (14 : Int32) else σ1.1 0 0 2 + 1) = nI (min (S.2.1.1 + 1) 14)
      rw [e0, a3, nI_1]
      exact imin (b := 14) (by omega) (by decide)
    · cases h with
      | zero =>
        rw [show (2 + ((nx + 1) % 14 + 13 - 0) % 14) = 2 + nx by omega]
        exact h1
      | succ h =>
        have hh' : h + 1 < min (S.2.1.1 + 1) 14 := hh
        rw [show (2 + ((nx + 1) % 14 + 13 - (h + 1)) % 14) = 2 + (nx + 13 - h) % 14 by omega]
        exact f1.b (by omega) (a4 h (by omega))
    · show σ1.1 12 0 k = _
      rw [eo 12 (by decide) (by decide) (by decide) (by decide)]
      exact (hC.2.2.1 k hk2).1
    · unfold cTxt
      simp only [ek 4 (by decide), ek 13 (by decide), eo 4 (by decide) (by decide) (by decide) (by decide), eo 13 (by decide) (by decide) (by decide) (by decide)]
      exact hC.2.2.2.1
    · unfold cSgt
      simp only [ek 3 (by decide), ek 15 (by decide), ek 16 (by decide), ek 17 (by decide), eo 3 (by decide) (by decide) (by decide) (by decide), eo 15 (by decide) (by decide) (by decide) (by decide), eo 16 (by decide) (by decide) (by decide) (by decide), eo 17 (by decide) (by decide) (by decide) (by decide)]
      exact hC.2.2.2.2.1
    · show σ1.2.1 5 = _
      rw [f1.2]
      exact hC.2.2.2.2.2
  · exact (f1.m.st (by decide)).st (by decide)
theorem SI.push {S : SS} (hS : SI S) : SI (S.1, pushH S.2.1 S.1, S.2.2) := by
  obtain ⟨h1, ⟨h2, h3⟩, h4⟩ := hS
  refine ⟨h1, ⟨Nat.min_le_right _ _, fun h hh => ?_⟩, h4⟩
  cases h with
  | zero => exact h1
  | succ h =>
    have : h + 1 < min (S.2.1.1 + 1) 14 := hh
    exact h3 h (by omega)
theorem SI.now {S : SS} {B : BM} (hS : SI S) (hB : InvB B) : SI (B, S.2) := ⟨hB, hS.2⟩
def popH (H : Nat × (Nat → BM)) : Nat × (Nat → BM) := (H.1 - 1, fun h => H.2 (h + 1))
theorem SI.pop {S : SS} (hS : SI S) (h0 : 0 < S.2.1.1) : SI (S.2.1.2 0, popH S.2.1, S.2.2) := by
  obtain ⟨h1, ⟨h2, h3⟩, h4⟩ := hS
  refine ⟨h3 0 h0, ⟨?_, fun h hh => ?_⟩, h4⟩
  · show S.2.1.1 - 1 ≤ 14
    omega
  · have : h < S.2.1.1 - 1 := hh
    exact h3 (h + 1) (by omega)
noncomputable def fUndo (S : SS) : Int32 := gt (S.2.1.1 = 0) (-3) (nI (S.2.1.1 - 1))
noncomputable def nUndo (S : SS) : SS := gt (S.2.1.1 = 0) S (S.2.1.2 0, popH S.2.1, S.2.2)
theorem c_undo {S : SS} (hS : SI S) : CSpec 51 [] S (.inl (fUndo S)) (nUndo S) := by
  intro σ hC
  obtain ⟨nx, a1, a2, a3, a4⟩ := id hC.2.1
  have hl := hS.2.1.1
  have hb : Ev 1 [.inr (.inr (0, 0)), rB 0] σ (fun r σ' => (S.2.1.1 = 0 ∧ r = some (.inl 0) ∧ σ' = σ) ∨ (0 < S.2.1.1 ∧ r = some (.inl 1) ∧ CS σ' (S.2.1.2 0, popH S.2.1, S.2.2) ∧ mEq σ σ')) := by
    refine G_if rfl (fun q => ?_) (fun q => ?_)
    · have h0 : 0 < S.2.1.1 := Nat.pos_of_ne_zero (fun e => q (by rw [a3, e]; rfl))
      refine G_div rfl (by decide) ?_
      rw [show σ.1 0 0 1 = nI nx from a2, show (14 : Int32) = nI 14 from rfl, nI_add, show nI (nx + 14) - 1 = nI (nx + 13) from nI_pred _, jr (by omega) (by decide) (by decide)]
      refine G_ald rfl ((nx + 13) % 14) rfl (by omega) (by decide) ?_
      have ek : ∀ k, k ≠ 0 → ∀ v w, hset (hset σ.1 0 0 1 v) 0 0 2 w k = σ.1 k := fun k q v w => by rw [hk q, hk q]
      have eB : ∀ (v w : Int32) b B, isB σ b B → isB (hset (hset σ.1 0 0 1 v) 0 0 2 w, σ.2) b B := fun v w b B q => by
        unfold isB isI at q ⊢
        simp only [ek 2 (by decide), ek 7 (by decide), ek 8 (by decide), ek 9 (by decide)]
        exact q
      have h00 := a4 0 h0
      rw [show (2 + (nx + 13 - 0) % 14) = 2 + (nx + 13) % 14 by omega] at h00
      refine G_call rfl (ev_bcopy (b := 0) (bf := 2 + (nx + 13) % 14) (eB _ _ _ _ h00) (hS.2.1.2 0 h0).sz (by omega)) ?_
      rintro r1 σ1 ⟨rfl, h1, f1⟩
      have eo : ∀ k, k ≠ 2 → k ≠ 7 → k ≠ 8 → k ≠ 9 → σ1.1 k = _ := fun k q1 q2 q3 q4 => funext (fun i => f1.1 k i (by omega))
      refine G_retZ rfl (Or.inr rfl) (Or.inr ⟨h0, rfl, ⟨h1, ⟨(nx + 13) % 14, by omega, ?_, ?_, fun h hh => f1.b (by omega) ?_⟩, fun k hk2 => ⟨?_, fun B hB => f1.b (by omega) (eB _ _ _ _ ((hC.2.2.1 k hk2).2 B hB))⟩, ?_, ?_, ?_⟩, ?_⟩)
      · rw [eo 0 (by decide) (by decide) (by decide) (by decide)]
        rfl
      · rw [eo 0 (by decide) (by decide) (by decide) (by decide)]
        show σ.1 0 0 2 - 1 = nI (S.2.1.1 - 1)
        rw [a3, lm1 h0]
      · have hh' : h < S.2.1.1 - 1 := hh
        have := a4 (h + 1) (by omega)
        rw [show (2 + ((nx + 13) % 14 + 13 - h) % 14) = 2 + (nx + 13 - (h + 1)) % 14 by omega]
        exact eB _ _ _ _ this
      · rw [eo 12 (by decide) (by decide) (by decide) (by decide)]
        exact (hC.2.2.1 k hk2).1
      · unfold cTxt
        rw [eo 4 (by decide) (by decide) (by decide) (by decide), eo 13 (by decide) (by decide) (by decide) (by decide)]
        exact hC.2.2.2.1
      · unfold cSgt
        rw [eo 3 (by decide) (by decide) (by decide) (by decide), eo 15 (by decide) (by decide) (by decide) (by decide), eo 16 (by decide) (by decide) (by decide) (by decide), eo 17 (by decide) (by decide) (by decide) (by decide)]
        simp only [ek 3 (by decide), ek 15 (by decide), ek 16 (by decide), ek 17 (by decide)]
        exact hC.2.2.2.2.1
      · rw [f1.2]
        exact hC.2.2.2.2.2
      · exact (((mEq.rf σ).st (by decide)).st (by decide)).tr f1.m
    · exact G_retZ rfl (Or.inl rfl) (Or.inl ⟨by
        have q := Classical.not_not.mp q
        rw [a3] at q
        exact ieq (b := 0) q (by omega) (by decide), rfl, rfl⟩)
  unfold fUndo nUndo
  refine G_call rfl hb ?_
  rintro r1 σ1 (⟨h0, rfl, rfl⟩ | ⟨h0, rfl, h1, h2⟩)
  · rw [gt_t h0, gt_t h0]
    refine G_if rfl (fun q => ?_) (fun q => ?_)
    · exact G_ret rfl ⟨rfl, hC, mEq.rf _⟩
    · exact absurd rfl q
  · have h0' : ¬ S.2.1.1 = 0 := by omega
    rw [gt_f h0', gt_f h0']
    refine G_if rfl (fun q => ?_) (fun q => ?_)
    · exact absurd q (by decide)
    · refine G_ret rfl ⟨?_, h1, h2⟩
      obtain ⟨nx', -, -, b3, -⟩ := h1.2.1
      rw [b3]
      rfl
