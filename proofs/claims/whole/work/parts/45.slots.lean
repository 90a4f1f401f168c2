/-! undo, keep, again. -/
theorem m_undo {S : SS} (hS : SI S) : MSpec 115 [] S (.inl (fUndo S)) (nUndo S) := by
  intro σ hM
  have hl := hS.2.1.1
  have hM0 := hM.scr (frS.th σ)
  have hc0 := (frS.th σ).c
  unfold fUndo nUndo
  refine G_if rfl (fun q => ?_) (fun q => ?_)
  · have h0 : ¬ S.2.1.1 = 0 := fun e => q (by rw [show (hset σ.1 6 0 0 0, σ.2).1 6 0 11 = _ from hM0.2.1.1, e]; rfl)
    rw [gt_f h0, gt_f h0]
    have hlast : ∀ σ1 σe : Hp, σ1 = (hset (hset σ.1 6 0 0 0) 6 0 11 (nI (S.2.1.1 - 1)), σ.2) → cpI σ1 σe 21 23 0 (242 * (S.2.1.1 - 1)) 242 → MS σe (S.2.1.2 0, popH S.2.1, S.2.2) ∧ cEq σ σe ∧ σe.1 6 0 11 = nI (S.2.1.1 - 1) := by
      intro σ1 σe h1 hc
      have ee : ∀ k, k ≠ 6 → k ≠ 21 → σe.1 k = σ.1 k := fun k q1 q2 => by rw [hc.1 k q2, h1]; show hset (hset σ.1 6 0 0 0) 6 0 11 _ k = _; rw [hk q1, hk q1]
      have e6 : σe.1 6 = hset (hset σ.1 6 0 0 0) 6 0 11 (nI (S.2.1.1 - 1)) 6 := by rw [hc.1 6 (by decide), h1]
      have e61 : σe.1 6 0 11 = nI (S.2.1.1 - 1) := by rw [e6]; rfl
      refine ⟨⟨?_, ⟨e61, fun h hh => ?_⟩, fun k hk2 => ⟨?_, fun B hb => ?_⟩, ?_, ?_, ?_⟩, ⟨fun k q => ee k (by omega) (by omega), by rw [hc.2.1, h1], by rw [hc.2.1, h1]⟩, e61⟩
      · refine isPB.cp (hM.2.1.2 0 (by omega)) (hS.2.1.2 0 (by omega)).sz (fun x hx => ?_)
        rw [hc.at x hx, h1, show S.2.1.1 - 1 - 0 = S.2.1.1 - 1 by omega]
        rfl
      · have hh : h < S.2.1.1 - 1 := hh
        have := hM.2.1.2 (h + 1) (by omega)
        show isPB σe 23 (242 * (S.2.1.1 - 1 - 1 - h)) (S.2.1.2 (h + 1))
        rw [show S.2.1.1 - 1 - 1 - h = S.2.1.1 - 1 - (h + 1) by omega]
        unfold isPB isP at this ⊢
        rw [ee 23 (by decide) (by decide)]
        exact this
      · rw [ee 25 (by decide) (by decide)]
        exact (hM.2.2.1 k hk2).1
      · have := (hM.2.2.1 k hk2).2 B hb
        unfold isPB isP at this ⊢
        rw [ee 24 (by decide) (by decide)]
        exact this
      · have := hM.2.2.2.1
        unfold mTxt at this ⊢
        rw [ee 18 (by decide) (by decide), e6]
        exact this
      · have := hM.2.2.2.2.1
        unfold mSgt at this ⊢
        rw [ee 26 (by decide) (by decide), ee 27 (by decide) (by decide), ee 28 (by decide) (by decide), e6]
        exact this
      · rw [hc.2.1, h1]
        exact hM.2.2.2.2.2
    have loop : ∀ (σ1 : Hp), σ1 = (hset (hset σ.1 6 0 0 0) 6 0 11 (nI (S.2.1.1 - 1)), σ.2) → ∀ (n i : Nat) (xi : Int32) (σc : Hp), xi = nI i → i + n = 242 → cpI σ1 σc 21 23 0 (242 * (S.2.1.1 - 1)) i → RR 115 27 [some rMo, some (.inl xi)] [] σc (fun r σ' => r = some (.inl (nI (S.2.1.1 - 1))) ∧ MS σ' (S.2.1.2 0, popH S.2.1, S.2.2) ∧ cEq σ σ') := by
      intro σ1 h1 n
      induction n with
      | zero =>
        intro i xi σc hx hi hc
        have hi : i = 242 := hi
        subst hi
        obtain ⟨q1, q2, q3⟩ := hlast σ1 σc h1 hc
        refine G_if rfl (fun q => ?_) (fun q => ?_)
        · exact G_ret rfl ⟨by rw [q3], q1, q2⟩
        · rw [hx] at q
          exact absurd (by decide) q
      | succ n ih =>
        intro i xi σc hx hi hc
        have h11c : σc.1 6 0 11 = nI (S.2.1.1 - 1) := by rw [hc.1 6 (by decide), h1]; rfl
        refine G_if rfl (fun q => ?_) (fun q => ?_)
        · rw [hx] at q
          exact absurd (ile (a := 242) q (by decide) (by omega)) (by omega)
        · refine G_ald rfl (242 * (S.2.1.1 - 1) + i) (by rw [h11c, hx, m242, nI_add]) (by omega) (by decide) ?_
          refine G_ast rfl (0 + i) (by rw [hx, Nat.zero_add]) (by omega) (by decide) ?_
          refine G_to [27] rfl ?_
          exact ih (i + 1) _ _ (by rw [hx, nI_1]) (by omega) (hc.s (Or.inl (by decide)))
    refine G_to [27] rfl ?_
    have e11 : (hset σ.1 6 0 0 0) 6 0 11 - 1 = nI (S.2.1.1 - 1) := by
      rw [show hset σ.1 6 0 0 0 6 0 11 = nI S.2.1.1 from hM0.2.1.1, lm1 (by omega)]
    refine loop _ ?_ 242 0 _ _ nI_0.symm rfl (cpI.z _ _ _ _ _)
    show (hset (hset σ.1 6 0 0 0) 6 0 11 ((hset σ.1 6 0 0 0) 6 0 11 - 1), σ.2) = _
    rw [e11]
  · have h0 : S.2.1.1 = 0 := by
      have q := Classical.not_not.mp q
      rw [show (hset σ.1 6 0 0 0, σ.2).1 6 0 11 = _ from hM0.2.1.1] at q
      exact ieq (b := 0) q (by omega) (by decide)
    rw [gt_t h0, gt_t h0]
    exact G_ret rfl ⟨rfl, hM0, hc0⟩
def upO (f : Nat → Option BM) (k : Nat) (B : BM) : Nat → Option BM := fun j => if j = k then some B else f j
noncomputable def fKeep (S : SS) (x : Int32) : Int32 := gt (okM x) (nI (S.1.1.1 + S.1.2.1)) (-1)
noncomputable def nKeep (S : SS) (x : Int32) : SS := gt (okM x) (S.1, S.2.1, upO S.2.2.1 x.toNatClampNeg S.1, S.2.2.2) S
theorem SI.keep {S : SS} (hS : SI S) (x : Int32) : SI (nKeep S x) := by
  unfold nKeep
  by_cases h : okM x
  · rw [gt_t h]
    refine ⟨hS.1, hS.2.1, fun k B hk hB => ?_, hS.2.2.2⟩
    have hB : (if k = x.toNatClampNeg then some S.1 else S.2.2.1 k) = some B := hB
    by_cases e : k = x.toNatClampNeg
    · rw [if_pos e] at hB
      cases hB
      exact hS.1
    · rw [if_neg e] at hB
      exact hS.2.2.1 k B hk hB
  · rw [gt_f h]
    exact hS
theorem c_keep {S : SS} (hS : SI S) (x : Int32) : CSpec 84 [.inl x] S (.inl (fKeep S x)) (nKeep S x) := by
  intro σ hC
  unfold fKeep nKeep
  refine G_call rfl (ev_isSlot x σ) ?_
  rintro r1 σ1 ⟨rfl, ⟨h1, rfl⟩ | ⟨h1, rfl⟩⟩
  · refine G_if rfl (fun q => ?_) (fun q => ?_)
    · have h1 : okM x := h1
      rw [gt_t h1, gt_t h1]
      obtain ⟨m, hm, rfl⟩ := okM_nat h1
      rw [nI_clamp (by omega)]
      refine G_ald rfl m rfl (by omega) (by decide) ?_
      refine G_call rfl (ev_bcopy (b := 16 + m) hC.1 hS.1.sz (by omega)) ?_
      rintro r1 σ2 ⟨rfl, h2, f2⟩
      refine G_zst rfl m rfl (by omega) (by decide) (Or.inr rfl) ?_
      have eB : ∀ b B, isB σ2 b B → isB (hset σ2.1 12 0 m 1, σ2.2) b B := fun b B q => q
      refine G_call rfl (ev_bitems (eB _ _ (f2.b (by omega) hC.1))) ?_
      rintro r1 σ3 ⟨rfl, rfl⟩
      have eo : ∀ k, k ≠ 2 → k ≠ 7 → k ≠ 8 → k ≠ 9 → σ2.1 k = _ := fun k q1 q2 q3 q4 => funext (fun i => f2.1 k i (by omega))
      obtain ⟨nx, a1, a2, a3, a4⟩ := id hC.2.1
      refine G_ret rfl ⟨rfl, ⟨eB _ _ (f2.b (by omega) hC.1), ⟨nx, a1, ?_, ?_, fun h hh => eB _ _ (f2.b (by omega) (a4 h hh))⟩, fun k hk2 => ?_, ?_, ?_, ?_⟩, f2.m.st (by decide)⟩
      · show σ2.1 0 0 1 = _
        rw [eo 0 (by decide) (by decide) (by decide) (by decide)]
        exact a2
      · show σ2.1 0 0 2 = _
        rw [eo 0 (by decide) (by decide) (by decide) (by decide)]
        exact a3
      · show hset σ2.1 12 0 m 1 12 0 k = kp (if k = m then some S.1 else S.2.2.1 k) ∧ ∀ B, (if k = m then some S.1 else S.2.2.1 k) = some B → _
        by_cases e : k = m
        · subst e
          rw [if_pos rfl, ix_eq0]
          refine ⟨rfl, fun B hB => ?_⟩
          cases hB
          exact eB _ _ h2
        · rw [if_neg e, hs_ne e, eo 12 (by decide) (by decide) (by decide) (by decide)]
          exact ⟨(hC.2.2.1 k hk2).1, fun B hB => eB _ _ (f2.b (by omega) ((hC.2.2.1 k hk2).2 B hB))⟩
      · have := hC.2.2.2.1
        unfold cTxt at this ⊢
        show σ2.1 4 0 2 = _ ∧ ∀ i, _ → σ2.1 13 0 i = _
        rw [eo 4 (by decide) (by decide) (by decide) (by decide), eo 13 (by decide) (by decide) (by decide) (by decide)]
        exact this
      · have := hC.2.2.2.2.1
        unfold cSgt at this ⊢
        show σ2.1 3 0 3 = _ ∧ ∀ i, _ → σ2.1 15 0 i = _ ∧ σ2.1 16 0 i = _ ∧ σ2.1 17 0 i = _
        rw [eo 3 (by decide) (by decide) (by decide) (by decide), eo 15 (by decide) (by decide) (by decide) (by decide), eo 16 (by decide) (by decide) (by decide) (by decide), eo 17 (by decide) (by decide) (by decide) (by decide)]
        exact this
      · show σ2.2.1 5 = _
        rw [f2.2]
        exact hC.2.2.2.2.2
    · exact absurd (by decide) q
  · refine G_if rfl (fun q => ?_) (fun q => ?_)
    · exact absurd rfl q
    · have h1 : ¬ okM x := h1
      rw [gt_f h1, gt_f h1]
      exact G_ret rfl ⟨rfl, hC, mEq.rf _⟩
theorem m_keep {S : SS} (hS : SI S) (x : Int32) : MSpec 155 [.inl x] S (.inl (fKeep S x)) (nKeep S x) := by
  intro σ hM
  have hM0 := hM.scr (frS.th σ)
  have hc0 := (frS.th σ).c
  have z1 := hS.1.sz
  unfold fKeep nKeep
  refine G_call rfl (ev_in _ _ _ _) ?_
  rintro r1 σ1 ⟨rfl, ⟨a1, a2, rfl⟩ | ⟨h1, rfl⟩⟩
  · have h1 : okM x := i01'.mp ⟨(i64_le (x := 0)).mp a1, (i64_le (y := 1)).mp a2⟩
    refine G_if rfl (fun q => ?_) (fun q => ?_)
    · rw [gt_t h1, gt_t h1]
      obtain ⟨m, hm, rfl⟩ := okM_nat h1
      rw [nI_clamp (by omega)]
      refine G_zst rfl m rfl (by omega) (by decide) (Or.inr rfl) ?_
      have loop : ∀ (σ1 : Hp), σ1 = (hset (hset σ.1 6 0 0 0) 25 0 m 1, σ.2) → ∀ (n i : Nat) (xi : Int32) (σc : Hp), xi = nI i → i + n = 242 → cpI σ1 σc 24 21 (242 * m) 0 i → RR 155 26 [some rMo, some (.inl (nI m)), some (.inl xi)] [] σc (fun r σ' => r = some (.inl (nI (S.1.1.1 + S.1.2.1))) ∧ MS σ' (S.1, S.2.1, upO S.2.2.1 m S.1, S.2.2.2) ∧ cEq σ σ') := by
        intro σ1 h1 n
        induction n with
        | zero =>
          intro i xi σc hx hi hc
          have hi : i = 242 := hi
          subst hi
          have ee : ∀ k, k ≠ 6 → k ≠ 24 → k ≠ 25 → σc.1 k = σ.1 k := fun k q1 q2 q3 => by rw [hc.1 k q2, h1]; show hset (hset σ.1 6 0 0 0) 25 0 m 1 k = _; rw [hk q3, hk q1]
          have e6 : ∀ s, s ≠ 0 → σc.1 6 0 s = σ.1 6 0 s := fun s q => by rw [hc.1 6 (by decide), h1]; show hset (hset σ.1 6 0 0 0) 25 0 m 1 6 0 s = _; rw [hk (by decide), hs_ne q]
          have hB : isPB σc 21 0 S.1 := by
            have := hM.1
            unfold isPB isP at this ⊢
            rw [ee 21 (by decide) (by decide) (by decide)]
            exact this
          refine G_if rfl (fun q => ?_) (fun q => ?_)
          · refine G_ald rfl 0 rfl (by omega) (by decide) ?_
            refine G_ald rfl 121 rfl (by omega) (by decide) ?_
            refine G_ret rfl ⟨?_, ⟨hB, ⟨?_, fun h hh => ?_⟩, fun k hk2 => ?_, ?_, ?_, ?_⟩, ⟨fun k q => ee k (by omega) (by omega) (by omega), by rw [hc.2.1, h1], by rw [hc.2.1, h1]⟩⟩
            · have b1 := hB.1.1
              have b2 := hB.2.1
              rw [b1, b2, nI_add]
            · rw [e6 11 (by decide)]
              exact hM.2.1.1
            · have := hM.2.1.2 h hh
              unfold isPB isP at this ⊢
              rw [ee 23 (by decide) (by decide) (by decide)]
              exact this
            · show σc.1 25 0 k = kp (if k = m then some S.1 else S.2.2.1 k) ∧ ∀ B, (if k = m then some S.1 else S.2.2.1 k) = some B → _
              have e25 : σc.1 25 = hset (hset σ.1 6 0 0 0) 25 0 m 1 25 := by rw [hc.1 25 (by decide), h1]
              rw [e25]
              by_cases e : k = m
              · subst e
                rw [if_pos rfl, ix_eq0]
                refine ⟨rfl, fun B hb => ?_⟩
                cases hb
                refine isPB.cp hM.1 z1 (fun x hx => ?_)
                rw [hc.at x hx, h1]
                rfl
              · rw [if_neg e, hs_ne e]
                refine ⟨(hM.2.2.1 k hk2).1, fun B hb => ?_⟩
                refine isPB.cp ((hM.2.2.1 k hk2).2 B hb) (hS.2.2.1 k B hk2 hb).sz (fun x hx => ?_)
                rw [hc.out _ (by omega), h1]
                rfl
            · have := hM.2.2.2.1
              unfold mTxt at this ⊢
              rw [ee 18 (by decide) (by decide) (by decide), e6 2 (by decide)]
              exact this
            · have := hM.2.2.2.2.1
              unfold mSgt at this ⊢
              rw [ee 26 (by decide) (by decide) (by decide), ee 27 (by decide) (by decide) (by decide), ee 28 (by decide) (by decide) (by decide), e6 14 (by decide)]
              exact this
            · rw [hc.2.1, h1]
              exact hM.2.2.2.2.2
          · rw [hx] at q
            exact absurd (by decide) q
        | succ n ih =>
          intro i xi σc hx hi hc
          refine G_if rfl (fun q => ?_) (fun q => ?_)
          · rw [hx] at q
            exact absurd (ile (a := 242) q (by decide) (by omega)) (by omega)
          · refine G_ald rfl (0 + i) (by rw [hx, Nat.zero_add]) (by omega) (by decide) ?_
            refine G_ast rfl (242 * m + i) (by rw [hx, m242, nI_add]) (by omega) (by decide) ?_
            refine G_to [26] rfl ?_
            exact ih (i + 1) _ _ (by rw [hx, nI_1]) (by omega) (hc.s (Or.inl (by decide)))
      refine G_to [26] rfl ?_
      exact loop _ rfl 242 0 _ _ nI_0.symm rfl (cpI.z _ _ _ _ _)
    · exact absurd (by decide) q
  · have h1 : ¬ okM x := fun q => h1 (by
      have := i01'.mpr q
      exact ⟨(i64_le (x := 0)).mpr this.1, (i64_le (y := 1)).mpr this.2⟩)
    refine G_if rfl (fun q => ?_) (fun q => ?_)
    · exact absurd rfl q
    · rw [gt_f h1, gt_f h1]
      exact G_ret rfl ⟨rfl, hM0, hc0⟩
