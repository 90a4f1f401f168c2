/-! again, write, seek. -/
theorem ev_inI (x lo hi : Int32) (σ : Hp) : Ev 89 [.inr (.inl x.toInt64), .inr (.inl lo.toInt64), .inr (.inl hi.toInt64)] σ (fun r σ' => σ' = σ ∧ (((lo ≤ x ∧ x ≤ hi) ∧ r = some (.inl 1)) ∨ (¬ (lo ≤ x ∧ x ≤ hi) ∧ r = some (.inl 0)))) := by
  refine (ev_in _ _ _ _).mono ?_
  rintro r σ' ⟨h1, ⟨h2, h3, h4⟩ | ⟨h2, h3⟩⟩
  · exact ⟨h1, Or.inl ⟨⟨i64_le.mp h2, i64_le.mp h3⟩, h4⟩⟩
  · exact ⟨h1, Or.inr ⟨fun q => h2 ⟨i64_le.mpr q.1, i64_le.mpr q.2⟩, h3⟩⟩
theorem irng {x : Int32} {n : Nat} (hn : n < 2147483648) : (0 ≤ x ∧ x ≤ nI n) ↔ ∃ k, k ≤ n ∧ x = nI k := by
  constructor
  · rintro ⟨h1, h2⟩
    obtain ⟨k, hk, rfl⟩ := nI_of (Int32.not_lt.mpr h1)
    exact ⟨k, ile h2 hk hn, rfl⟩
  · rintro ⟨k, hk, rfl⟩
    exact ⟨nI_pos' (by omega), nI_le hk hn⟩
noncomputable def fAgain (S : SS) (x : Int32) : Int32 := gt (okM x) (match S.2.2.1 x.toNatClampNeg with
  | none => -3
  | some B => nI (B.1.1 + B.2.1)) (-1)
noncomputable def nAgain (S : SS) (x : Int32) : SS := gt (okM x) (match S.2.2.1 x.toNatClampNeg with
  | none => S
  | some B => (B, (0, S.2.1.2), S.2.2)) S
theorem SI.again {S : SS} (hS : SI S) (x : Int32) : SI (nAgain S x) := by
  unfold nAgain
  by_cases h : okM x
  · rw [gt_t h]
    obtain ⟨m, hm, rfl⟩ := okM_nat h
    rw [nI_clamp (by omega)]
    cases hb : S.2.2.1 m with
    | none => exact hS
    | some B => exact ⟨hS.2.2.1 m B hm hb, ⟨Nat.zero_le _, fun h hh => by cases hh⟩, hS.2.2⟩
  · rw [gt_f h]
    exact hS
theorem c_again {S : SS} (hS : SI S) (x : Int32) : CSpec 86 [.inl x] S (.inl (fAgain S x)) (nAgain S x) := by
  intro σ hC
  unfold fAgain nAgain
  refine G_call rfl (ev_isSlot x σ) ?_
  rintro r1 σ1 ⟨rfl, ⟨h1, rfl⟩ | ⟨h1, rfl⟩⟩
  · refine G_if rfl (fun q => ?_) (fun q => ?_)
    · have h1 : okM x := h1
      rw [gt_t h1, gt_t h1]
      obtain ⟨m, hm, rfl⟩ := okM_nat h1
      rw [nI_clamp (by omega)]
      obtain ⟨k1, k2⟩ := hC.2.2.1 m hm
      refine G_ald rfl m rfl (by omega) (by decide) ?_
      rw [k1]
      cases hb : S.2.2.1 m with
      | none =>
        refine G_if rfl (fun q2 => ?_) (fun q2 => ?_)
        · exact absurd rfl q2
        · exact G_ret rfl ⟨rfl, hC, mEq.rf _⟩
      | some B =>
        refine G_if rfl (fun q2 => ?_) (fun q2 => ?_)
        · refine G_ald rfl m rfl (by omega) (by decide) ?_
          refine G_call rfl (ev_bcopy (b := 0) (bf := 16 + m) (k2 B hb) (hS.2.2.1 m B hm hb).sz (by omega)) ?_
          rintro r1 σ2 ⟨rfl, h2, f2⟩
          have eB : ∀ b B, isB σ2 b B → isB (hset σ2.1 0 0 2 0, σ2.2) b B := fun b B q => q
          refine G_call rfl (ev_bitems (eB _ _ h2)) ?_
          rintro r1 σ3 ⟨rfl, rfl⟩
          have eo : ∀ k, k ≠ 2 → k ≠ 7 → k ≠ 8 → k ≠ 9 → σ2.1 k = _ := fun k q1 q2 q3 q4 => funext (fun i => f2.1 k i (by omega))
          obtain ⟨nx, a1, a2, a3, a4⟩ := id hC.2.1
          refine G_ret rfl ⟨rfl, ⟨eB _ _ h2, ⟨nx, a1, ?_, rfl, fun h hh => by cases hh⟩, fun k hk2 => ⟨?_, fun B' hB' => eB _ _ (f2.b (by omega) ((hC.2.2.1 k hk2).2 B' hB'))⟩, ?_, ?_, ?_⟩, f2.m.st (by decide)⟩
          · show σ2.1 0 0 1 = _
            rw [eo 0 (by decide) (by decide) (by decide) (by decide)]
            exact a2
          · show σ2.1 12 0 k = _
            rw [eo 12 (by decide) (by decide) (by decide) (by decide)]
            exact (hC.2.2.1 k hk2).1
          · have := hC.2.2.2.1
            unfold cTxt at this ⊢
            show σ2.1 4 0 2 = _ ∧ ∀ i, _ → σ2.1 13 0 i = _
            rw [eo 4 (by decide) (by decide) (by decide) (by decide), eo 13 (by decide) (by decide) (by decide) (by decide)]
            exact this
          · have := hC.2.2.2.2.1
            unfold cSgt at this ⊢
            show σ2.1 3 0 3 = _ ∧ ∀ i, _ → σ2.1 15 0 i = _ ∧ σ2.1 16 0 i = _ ∧ σ2.1 17 0 i = _
            rw [eo 3 (by decide) (by decide) (by decide) (by decide), eo 15 (by decide) (by decide) (by decide) (by decide), eo 16 (by decide) (by decide) (by decide) (by decide), eo 17 (by decide) (by decide) (by decide) (by decide)]
            exact this
          · show σ2.2.1 5 = _
            rw [f2.2]
            exact hC.2.2.2.2.2
        · exact absurd (by show ¬ (1 : Int32) = 0; decide) q2
    · exact absurd (by decide) q
  · refine G_if rfl (fun q => ?_) (fun q => ?_)
    · exact absurd rfl q
    · have h1 : ¬ okM x := h1
      rw [gt_f h1, gt_f h1]
      exact G_ret rfl ⟨rfl, hC, mEq.rf _⟩
theorem m_again {S : SS} (hS : SI S) (x : Int32) : MSpec 156 [.inl x] S (.inl (fAgain S x)) (nAgain S x) := by
  intro σ hM
  have hM0 := hM.scr (frS.th σ)
  have hc0 := (frS.th σ).c
  unfold fAgain nAgain
  refine G_call rfl (ev_inI x 0 1 _) ?_
  rintro r1 σ1 ⟨rfl, ⟨h1, rfl⟩ | ⟨h1, rfl⟩⟩
  · have h1 : okM x := i01'.mp h1
    refine G_if rfl (fun q => ?_) (fun q => ?_)
    · rw [gt_t h1, gt_t h1]
      obtain ⟨m, hm, rfl⟩ := okM_nat h1
      rw [nI_clamp (by omega)]
      obtain ⟨k1, k2⟩ := hM0.2.2.1 m hm
      refine G_ald rfl m rfl (by omega) (by decide) ?_
      rw [k1]
      cases hb : S.2.2.1 m with
      | none =>
        refine G_if rfl (fun q2 => ?_) (fun q2 => ?_)
        · exact absurd rfl q2
        · exact G_ret rfl ⟨rfl, hM0, hc0⟩
      | some B =>
        have hsz := (hS.2.2.1 m B hm hb).sz
        have loop : ∀ (σ1 : Hp), σ1 = (hset σ.1 6 0 0 0, σ.2) → ∀ (n i : Nat) (xi : Int32) (σc : Hp), xi = nI i → i + n = 242 → cpI σ1 σc 21 24 0 (242 * m) i → RR 156 31 [some rMo, some (.inl (nI m)), some (.inl xi)] [] σc (fun r σ' => r = some (.inl (nI (B.1.1 + B.2.1))) ∧ MS σ' (B, (0, S.2.1.2), S.2.2) ∧ cEq σ σ') := by
          intro σ1 h1 n
          induction n with
          | zero =>
            intro i xi σc hx hi hc
            have hi : i = 242 := hi
            subst hi
            have ee : ∀ k, k ≠ 6 → k ≠ 21 → σc.1 k = σ.1 k := fun k q1 q2 => by rw [hc.1 k q2, h1]; show hset σ.1 6 0 0 0 k = _; rw [hk q1]
            have e6 : ∀ s, s ≠ 0 → σc.1 6 0 s = σ.1 6 0 s := fun s q => by rw [hc.1 6 (by decide), h1]; show hset σ.1 6 0 0 0 6 0 s = _; rw [hs_ne q]
            have hB : isPB σc 21 0 B := by
              refine isPB.cp (k2 B hb) hsz (fun x hx => ?_)
              rw [hc.at x hx, h1]
            refine G_if rfl (fun q => ?_) (fun q => ?_)
            · refine G_ald rfl 0 rfl (by omega) (by decide) ?_
              refine G_ald rfl 121 rfl (by omega) (by decide) ?_
              refine G_ret rfl ⟨?_, ⟨hB, ⟨rfl, fun h hh => by cases hh⟩, fun k hk2 => ⟨?_, fun B' hb' => ?_⟩, ?_, ?_, ?_⟩, ⟨fun k q => ?_, ?_, ?_⟩⟩
              · have b1 : σc.1 21 0 0 = _ := hB.1.1
                have b2 : σc.1 21 0 121 = _ := hB.2.1
                show some (Sum.inl (σc.1 21 0 0 + σc.1 21 0 121)) = _
                rw [b1, b2, nI_add]
              · show σc.1 25 0 k = _
                rw [ee 25 (by decide) (by decide)]
                exact (hM.2.2.1 k hk2).1
              · refine isPB.cp ((hM.2.2.1 k hk2).2 B' hb') (hS.2.2.1 k B' hk2 hb').sz (fun x hx => ?_)
                show σc.1 24 0 _ = _
                rw [ee 24 (by decide) (by decide)]
              · have := hM.2.2.2.1
                unfold mTxt at this ⊢
                show σc.1 6 0 2 = _ ∧ ∀ i, _ → σc.1 18 0 i = _
                rw [ee 18 (by decide) (by decide), e6 2 (by decide)]
                exact this
              · have := hM.2.2.2.2.1
                unfold mSgt at this ⊢
                show σc.1 6 0 14 = _ ∧ ∀ i, _ → σc.1 26 0 i = _ ∧ σc.1 27 0 i = _ ∧ σc.1 28 0 i = _
                rw [ee 26 (by decide) (by decide), ee 27 (by decide) (by decide), ee 28 (by decide) (by decide), e6 14 (by decide)]
                exact this
              · show σc.2.1 6 = _
                rw [hc.2.1, h1]
                exact hM.2.2.2.2.2
              · show hset σc.1 6 0 11 0 k = _
                rw [hk (by omega)]
                exact ee k (by omega) (by omega)
              · show σc.2.1 5 = _
                rw [hc.2.1, h1]
              · show σc.2.2 = _
                rw [hc.2.1, h1]
            · rw [hx] at q
              exact absurd (by decide) q
          | succ n ih =>
            intro i xi σc hx hi hc
            refine G_if rfl (fun q => ?_) (fun q => ?_)
            · rw [hx] at q
              exact absurd (ile (a := 242) q (by decide) (by omega)) (by omega)
            · refine G_ald rfl (242 * m + i) (by rw [hx, m242, nI_add]) (by omega) (by decide) ?_
              refine G_ast rfl (0 + i) (by rw [hx, Nat.zero_add]) (by omega) (by decide) ?_
              refine G_to [31] rfl ?_
              exact ih (i + 1) _ _ (by rw [hx, nI_1]) (by omega) (hc.s (Or.inl (by decide)))
        refine G_if rfl (fun q2 => ?_) (fun q2 => ?_)
        · refine G_to [31] rfl ?_
          exact loop _ rfl 242 0 _ _ nI_0.symm rfl (cpI.z _ _ _ _ _)
        · exact absurd (by show ¬ (1 : Int32) = 0; decide) q2
    · exact absurd (by decide) q
  · have h1 : ¬ okM x := fun q => h1 (i01'.mpr q)
    refine G_if rfl (fun q => ?_) (fun q => ?_)
    · exact absurd rfl q
    · rw [gt_f h1, gt_f h1]
      exact G_ret rfl ⟨rfl, hM0, hc0⟩
/-- write -/
def okLt (x : Int32) : Prop := ∃ k, k ≤ 255 ∧ x = nI k
noncomputable def fWrite (S : SS) (x : Int32) : Int32 := gt (okLt x) (gt (S.2.2.2.1.1 < 64) (nI (S.2.2.2.1.1 + 1)) (-4)) (-2)
noncomputable def nWrite (S : SS) (x : Int32) : SS := gt (okLt x) (gt (S.2.2.2.1.1 < 64) (S.1, S.2.1, S.2.2.1, (S.2.2.2.1.1 + 1, upN S.2.2.2.1.2 S.2.2.2.1.1 x.toNatClampNeg), S.2.2.2.2) S) S
theorem SI.write {S : SS} (hS : SI S) (x : Int32) : SI (nWrite S x) := by
  unfold nWrite
  by_cases h : okLt x
  · rw [gt_t h]
    by_cases h2 : S.2.2.2.1.1 < 64
    · rw [gt_t h2]
      obtain ⟨k, hk, rfl⟩ := h
      rw [nI_clamp (by omega)]
      refine ⟨hS.1, hS.2.1, hS.2.2.1, ⟨h2, fun i hi => ?_⟩, hS.2.2.2.2⟩
      show (if i = S.2.2.2.1.1 then k else S.2.2.2.1.2 i) < 256
      have hi : i < S.2.2.2.1.1 + 1 := hi
      by_cases e : i = S.2.2.2.1.1
      · rw [if_pos e]; omega
      · rw [if_neg e]
        exact hS.2.2.2.1.2 i (by omega)
    · rw [gt_f h2]; exact hS
  · rw [gt_f h]; exact hS
theorem c_write {S : SS} (hS : SI S) (x : Int32) : CSpec 42 [.inl x] S (.inl (fWrite S x)) (nWrite S x) := by
  intro σ hC
  have hl := hS.2.2.2.1.1
  have ht := hC.2.2.2.1
  unfold fWrite nWrite
  have bad : ¬ okLt x → RR 42 11 [some rT, some (.inl x)] [] σ (fun q σ' => q = some (.inl (gt (okLt x) (gt (S.2.2.2.1.1 < 64) (nI (S.2.2.2.1.1 + 1)) (-4)) (-2))) ∧ CS σ' (gt (okLt x) (gt (S.2.2.2.1.1 < 64) (S.1, S.2.1, S.2.2.1, (S.2.2.2.1.1 + 1, upN S.2.2.2.1.2 S.2.2.2.1.1 x.toNatClampNeg), S.2.2.2.2) S) S) ∧ mEq σ σ') := by
    intro h
    rw [gt_f h, gt_f h]
    exact G_ret rfl ⟨rfl, hC, mEq.rf _⟩
  refine G_if rfl (fun q => ?_) (fun q => ?_)
  · exact bad (fun e => absurd q (Int32.not_lt.mpr ((irng (n := 255) (by decide)).mpr e).1))
  · refine G_if rfl (fun q2 => ?_) (fun q2 => ?_)
    · have h : okLt x := (irng (n := 255) (by decide)).mp ⟨Int32.not_lt.mp q, q2⟩
      rw [gt_t h, gt_t h]
      obtain ⟨k, hk0, rfl⟩ := h
      rw [nI_clamp (by omega)]
      have ha : Ev 35 [.inr (.inr (4, 0)), .inl (nI k)] σ (fun r σ' => (S.2.2.2.1.1 < 64 ∧ r = some (.inl 1) ∧ σ' = (hset (hset σ.1 13 0 S.2.2.2.1.1 (nI k)) 4 0 2 (nI (S.2.2.2.1.1 + 1)), σ.2)) ∨ (¬ S.2.2.2.1.1 < 64 ∧ r = some (.inl 0) ∧ σ' = σ)) := by
        refine G_if rfl (fun q3 => ?_) (fun q3 => ?_)
        · have q3 : S.2.2.2.1.1 < 64 := by
            rw [ht.1] at q3
            exact ilt (b := 64) q3 (by omega) (by decide)
          refine G_ast rfl S.2.2.2.1.1 (by rw [ht.1]) (by omega) (by decide) ?_
          refine G_retZ rfl (Or.inr rfl) (Or.inl ⟨q3, rfl, ?_⟩)
          show (hset (hset σ.1 13 0 S.2.2.2.1.1 (nI k)) 4 0 2 (σ.1 4 0 2 + 1), σ.2) = _
          rw [ht.1, nI_1]
        · refine G_retZ rfl (Or.inl rfl) (Or.inr ⟨fun e => q3 ?_, rfl, rfl⟩)
          rw [ht.1]
          exact nI_lt (b := 64) e (by decide)
      refine G_call rfl ha ?_
      rintro r1 σ1 (⟨h2, rfl, rfl⟩ | ⟨h2, rfl, rfl⟩)
      · rw [gt_t h2, gt_t h2]
        refine G_if rfl (fun q3 => ?_) (fun q3 => ?_)
        · exact absurd q3 (by decide)
        · refine G_ret rfl ⟨rfl, hC.txt (fun k' q1 q2 _ => ?_) rfl ⟨rfl, fun i hi => ?_⟩, ((mEq.rf σ).st (by decide)).st (by decide)⟩
          · show hset (hset σ.1 13 0 S.2.2.2.1.1 (nI k)) 4 0 2 (nI (S.2.2.2.1.1 + 1)) k' = _
            rw [hk q1, hk q2]
          · have hi : i < S.2.2.2.1.1 + 1 := hi
            show hset σ.1 13 0 S.2.2.2.1.1 (nI k) 13 0 i = nI (if i = S.2.2.2.1.1 then k else S.2.2.2.1.2 i)
            by_cases e : i = S.2.2.2.1.1
            · rw [if_pos e, e, ix_eq0]
            · rw [if_neg e, hs_ne e]
              exact ht.2 i (by omega)
      · rw [gt_f h2, gt_f h2]
        refine G_if rfl (fun q3 => ?_) (fun q3 => ?_)
        · exact G_ret rfl ⟨rfl, hC, mEq.rf _⟩
        · exact absurd rfl q3
    · exact bad (fun e => absurd ((irng (n := 255) (by decide)).mpr e).2 q2)
theorem m_write {S : SS} (hS : SI S) (x : Int32) : MSpec 88 [.inl x] S (.inl (fWrite S x)) (nWrite S x) := by
  intro σ hM
  have hM0 := hM.scr (frS.th σ)
  have hc0 := (frS.th σ).c
  have hl := hS.2.2.2.1.1
  have ht := hM0.2.2.2.1
  have ht1 : hset σ.1 6 0 0 0 6 0 2 = nI S.2.2.2.1.1 := ht.1
  unfold fWrite nWrite
  refine G_call rfl (ev_inI x 0 255 _) ?_
  rintro r1 σ1 ⟨rfl, ⟨h1, rfl⟩ | ⟨h1, rfl⟩⟩
  · have h : okLt x := (irng (n := 255) (by decide)).mp h1
    refine G_if rfl (fun q => ?_) (fun q => ?_)
    · rw [gt_t h, gt_t h]
      obtain ⟨k, hk0, rfl⟩ := h
      rw [nI_clamp (by omega)]
      refine G_if rfl (fun q2 => ?_) (fun q2 => ?_)
      · have h2 : S.2.2.2.1.1 < 64 := by
          rcases Nat.lt_or_ge S.2.2.2.1.1 64 with h | h
          · exact h
          · exact absurd (by show hset σ.1 6 0 0 0 6 0 2 = 64; rw [ht1, show S.2.2.2.1.1 = 64 by omega]; rfl) q2
        rw [gt_t h2, gt_t h2]
        refine G_ast rfl S.2.2.2.1.1 (by show hset σ.1 6 0 0 0 6 0 2 = _; rw [ht1]) (by omega) (by decide) ?_
        refine G_ret rfl ⟨?_, hM.txt (fun k' q1 q2 _ _ => ?_) (fun s q => ?_) rfl ⟨?_, fun i hi => ?_⟩, ((hc0.st (by decide)).st (by decide))⟩
        · show some (Sum.inl (hset σ.1 6 0 0 0 6 0 2 + 1)) = _
          rw [ht1, nI_1]
        · show hset (hset (hset σ.1 6 0 0 0) 18 0 S.2.2.2.1.1 (nI k)) 6 0 2 (hset σ.1 6 0 0 0 6 0 2 + 1) k' = _
          rw [hk q1, hk q2, hk q1]
        · rcases q with rfl | rfl <;> rfl
        · show hset σ.1 6 0 0 0 6 0 2 + 1 = _
          rw [ht1, nI_1]
        · have hi : i < S.2.2.2.1.1 + 1 := hi
          show hset (hset σ.1 6 0 0 0) 18 0 S.2.2.2.1.1 (nI k) 18 0 i = nI (if i = S.2.2.2.1.1 then k else S.2.2.2.1.2 i)
          by_cases e : i = S.2.2.2.1.1
          · rw [if_pos e, e, ix_eq0]
          · rw [if_neg e, hs_ne e]
            exact ht.2 i (by omega)
      · have h2 : ¬ S.2.2.2.1.1 < 64 := by
          have q2 := Classical.not_not.mp q2
          rw [show (hset σ.1 6 0 0 0, σ.2).1 6 0 2 = _ from ht1] at q2
          have := ieq (b := 64) q2 (by omega) (by decide)
          omega
        rw [gt_f h2, gt_f h2]
        exact G_ret rfl ⟨rfl, hM0, hc0⟩
    · exact absurd (by decide) q
  · have h : ¬ okLt x := fun q => h1 ((irng (n := 255) (by decide)).mpr q)
    refine G_if rfl (fun q => ?_) (fun q => ?_)
    · exact absurd rfl q
    · rw [gt_f h, gt_f h]
      exact G_ret rfl ⟨rfl, hM0, hc0⟩
