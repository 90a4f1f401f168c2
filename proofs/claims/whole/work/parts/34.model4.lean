/-! The model: a key taken out. -/
theorem upN_comm {T : Nat → Nat} {a b u v : Nat} (h : a ≠ b) : upN (upN T a u) b v = upN (upN T b v) a u := by
  funext i
  unfold upN
  by_cases h1 : i = b
  · rw [if_pos h1, if_neg (by omega), if_pos h1]
  · rw [if_neg h1, if_neg h1]
theorem del_up (f : Nat → Nat) (p : Nat) : delF (upN f p (f (p + 1))) (p + 1) = delF f p := by
  funext i
  unfold delF upN
  rcases Nat.lt_trichotomy i p with h | h | h
  · rw [if_pos (by omega), if_neg (by omega), if_pos h]
  · subst h
    simp
  · rw [if_neg (by omega), if_neg (by omega), if_neg (by omega)]
theorem bhF_skip {n : Nat} {T : Nat → Nat} {l x : Nat} (hx : x < n) (hT : T x < l) : bhF n T l (x + 1) = bhF n T l x := by
  unfold bhF
  rw [show n - x = n - (x + 1) + 1 by omega, scn_t (by simpa using hT)]
section MO
variable {σ : Hp} {mb : Nat} {M : AM}
theorem ev_help_21 (hI : isP σ 21 mb M) (hw : wfT M) (hm : mb + 121 ≤ 242) {l x : Nat} (hl : 1 ≤ l) (hl2 : l < 63) (hx : x ≤ M.1) (h21 : σ.1 6 0 21 = nI (ahF M.2.2.2 l x) - 1) (h22 : σ.1 6 0 22 = nI (bhF M.1 M.2.2.2 l x)) (hc : cntF M.2.2.2 (l - 1) (bhF M.1 M.2.2.2 l x - ahF M.2.2.2 l x) (ahF M.2.2.2 l x) = 1)
    (hAB : ¬ (bhF M.1 M.2.2.2 l x < M.1 ∧ M.2.2.2 (bhF M.1 M.2.2.2 l x) = l) → 0 < ahF M.2.2.2 l x) (hLB : LB M.1 M.2.2.2) : Ev 112 [rMo, rP 21, .inl (nI mb), .inl (nI l)] σ (fun r σ' => r = none ∧ frP 21 mb σ σ' ∧ isP σ' 21 mb (setT M (helpF M.1 M.2.2.2 l x))) := by
  have hn := hw.1
  have ha := ahF_le M.2.2.2 l x
  have hb := bhF_le M.2.2.2 l hx
  -- the end: the fence down, the nearest up
  have fin : ∀ (f q c : Nat) (σ1 : Hp) (x4 x5 x6 x7 x8 x9 : Int32), isP σ1 21 mb M → frP 21 mb σ σ1 → f < M.1 → q < M.1 → f ≠ q → 1 ≤ M.2.2.2 f → x5 = nI f → x8 = nI c → c < 100 → (2 ≤ c → x9 = nI q) → RR 112 138 [some rMo, some (rP 21), some (.inl (nI mb)), some (.inl (nI l)), some (.inl x4), some (.inl x5), some (.inl x6), some (.inl x7), some (.inl x8), some (.inl x9)] [] σ1 (fun r σ' => r = none ∧ frP 21 mb σ σ' ∧ isP σ' 21 mb (setT M (if 2 ≤ c then upN (upN M.2.2.2 f (M.2.2.2 f - 1)) q (M.2.2.2 q + 1) else upN M.2.2.2 f (M.2.2.2 f - 1)))) := by
    intro f q c σ1 x4 x5 x6 x7 x8 x9 hI1 hf1 hf hq hfq hTf hx5 hx8 hcl hx9
    refine G_ald rfl (mb + 81 + f) (by rw [hx5]; exact ix81 mb f) (by omega) (by decide) ?_
    refine G_ast rfl (mb + 81 + f) (by rw [hx5]; exact ix81 mb f) (by omega) (by decide) ?_
    rw [(hI1.2 f hf).2.2, lm1 hTf]
    have hI2 := isP_up (v := M.2.2.2 f - 1) hI1 hn (q := f) (by omega)
    have hf2 : frP 21 mb σ (hset σ1.1 21 0 (mb + 81 + f) (nI (M.2.2.2 f - 1)), σ1.2) := hf1.st (by decide) (by omega)
    generalize (hset σ1.1 21 0 (mb + 81 + f) (nI (M.2.2.2 f - 1)), σ1.2) = σ2 at hI2 hf2 ⊢
    refine G_if rfl (fun h => ?_) (fun h => ?_)
    · rw [hx8] at h
      have h := ile (b := 1) h (by omega) (by decide)
      rw [if_neg (by omega)]
      exact G_ret rfl ⟨rfl, hf2, hI2⟩
    · rw [hx8] at h
      have h := nle (b := 1) h (by omega) (by decide)
      have hx9 := hx9 (by omega)
      refine G_ald rfl (mb + 81 + q) (by rw [hx9]; exact ix81 mb q) (by omega) (by decide) ?_
      refine G_ast rfl (mb + 81 + q) (by rw [hx9]; exact ix81 mb q) (by omega) (by decide) ?_
      rw [(hI2.2 q hq).2.2]
      have e : (setT M (upN M.2.2.2 f (M.2.2.2 f - 1))).2.2.2 q = M.2.2.2 q := by
        show upN M.2.2.2 f (M.2.2.2 f - 1) q = _
        unfold upN
        rw [if_neg (by omega)]
      rw [e, nI_1, if_pos (by omega)]
      exact G_ret rfl ⟨rfl, hf2.st (by decide) (by omega), isP_up (v := M.2.2.2 q + 1) hI2 hn (q := q) (by omega)⟩
  unfold helpF
  rw [if_pos hc]
  -- ahead
  have ahd : ¬ (bhF M.1 M.2.2.2 l x < M.1 ∧ M.2.2.2 (bhF M.1 M.2.2.2 l x) = l) → RR 112 30 [some rMo, some (rP 21), some (.inl (nI mb)), some (.inl (nI l)), none, none, none, none, none, none] [.inl 0] σ (fun r σ' => r = none ∧ frP 21 mb σ σ' ∧ isP σ' 21 mb (setT M (if bhF M.1 M.2.2.2 l x < M.1 ∧ M.2.2.2 (bhF M.1 M.2.2.2 l x) = l then helpB M.1 M.2.2.2 l (bhF M.1 M.2.2.2 l x) else if 0 < ahF M.2.2.2 l x then helpA M.2.2.2 l (ahF M.2.2.2 l x - 1) else M.2.2.2))) := by
    intro hno
    have hapos := hAB hno
    rw [if_neg hno, if_pos hapos]
    have hat := ahF_at M.2.2.2 l x (ahF M.2.2.2 l x - 1) (by omega)
    generalize hae : ahF M.2.2.2 l x = a at *
    have hs := ahF_le M.2.2.2 l (a - 1)
    have ea : nI a - 1 = nI (a - 1) := lm1 hapos
    -- the gap ahead of the fence has one
    have hc1 : 1 ≤ cntF M.2.2.2 (l - 1) (a - 1 - ahF M.2.2.2 l (a - 1)) (ahF M.2.2.2 l (a - 1)) := by
      obtain ⟨s1, s2⟩ := ahF_sp M.2.2.2 l (a - 1)
      obtain ⟨r, r1, r2, r3⟩ := hLB l hl ⟨a - 1, by omega, hat⟩ (ahF M.2.2.2 l (a - 1)) a (by omega) (by omega) (by
        rcases s1 with q | q
        · exact Or.inl q
        · rcases Nat.eq_zero_or_pos (ahF M.2.2.2 l (a - 1)) with q2 | q2
          · exact Or.inl q2
          · exact Or.inr (Or.inr ⟨q2, by omega, q⟩)) (Or.inr (Or.inr ⟨by omega, by omega, hat⟩))
      exact cntF_pos _ _ _ _ (r - 1) (by omega) (by omega) r3
    have hcl := cntF_le M.2.2.2 (l - 1) (a - 1 - ahF M.2.2.2 l (a - 1)) (ahF M.2.2.2 l (a - 1))
    refine G_if rfl (fun q => ?_) (fun q => ?_)
    · refine G_callv rfl (by rw [h21, ea, nI_1, show a - 1 + 1 = a by omega]) (ev_layGap_21 hI hw hm (l := l) (q := a - 1) (f := a) (by omega) (by omega) (by omega)) ?_
      rintro r1 σ2 ⟨rfl, hf2, g21, g22⟩
      have hI2 := hf2.is (by decide) hI
      refine G_if rfl (fun q => ?_) (fun q => ?_)
      · refine G_if rfl (fun q => ?_) (fun q => ?_)
        · refine G_callv rfl (by rw [g21, h21, ea, lm1 hl]) (ev_between_21 hI2 hw hm (a := ahF M.2.2.2 l (a - 1)) (b := a - 1) (h := l - 1) (by omega) (by omega) (by omega)) ?_
          rintro r1 σ3 ⟨rfl, rfl⟩
          obtain ⟨n1, n2, n3⟩ := nthF_in M.2.2.2 (l - 1) (a - 1 - ahF M.2.2.2 l (a - 1)) (ahF M.2.2.2 l (a - 1)) (cntF M.2.2.2 (l - 1) (a - 1 - ahF M.2.2.2 l (a - 1)) (ahF M.2.2.2 l (a - 1))) hc1 (Nat.le_refl _)
          refine G_if rfl (fun q => ?_) (fun q => ?_)
          · refine G_callv rfl (by rw [g21, h21, ea, lm1 hl, lm1 hc1]) (ev_placeOf_21 hI2 hw hm (a := ahF M.2.2.2 l (a - 1)) (b := a - 1) (h := l - 1) (w := cntF M.2.2.2 (l - 1) (a - 1 - ahF M.2.2.2 l (a - 1)) (ahF M.2.2.2 l (a - 1)) - 1) (by omega) (by omega) (by omega) (by omega)) ?_
            rintro r1 σ4 ⟨rfl, rfl⟩
            rw [show cntF M.2.2.2 (l - 1) (a - 1 - ahF M.2.2.2 l (a - 1)) (ahF M.2.2.2 l (a - 1)) - 1 + 1 = cntF M.2.2.2 (l - 1) (a - 1 - ahF M.2.2.2 l (a - 1)) (ahF M.2.2.2 l (a - 1)) by omega]
            refine G_to [138] rfl ?_
            refine (fin (a - 1) (nthF M.2.2.2 (l - 1) (a - 1 - ahF M.2.2.2 l (a - 1)) (ahF M.2.2.2 l (a - 1)) (cntF M.2.2.2 (l - 1) (a - 1 - ahF M.2.2.2 l (a - 1)) (ahF M.2.2.2 l (a - 1)))) _ _ _ _ _ _ _ _ hI2 (hf2.p (by decide)) (by omega) (by omega) (by omega) (by omega) (by rw [h21, ea]) rfl (by omega) (fun _ => rfl)).mono ?_
            rintro r σ' ⟨k1, k2, k3⟩
            refine ⟨k1, k2, ?_⟩
            have e : helpA M.2.2.2 l (a - 1) = if 2 ≤ cntF M.2.2.2 (l - 1) (a - 1 - ahF M.2.2.2 l (a - 1)) (ahF M.2.2.2 l (a - 1)) then upN (upN M.2.2.2 (a - 1) (M.2.2.2 (a - 1) - 1)) (nthF M.2.2.2 (l - 1) (a - 1 - ahF M.2.2.2 l (a - 1)) (ahF M.2.2.2 l (a - 1)) (cntF M.2.2.2 (l - 1) (a - 1 - ahF M.2.2.2 l (a - 1)) (ahF M.2.2.2 l (a - 1)))) (M.2.2.2 (nthF M.2.2.2 (l - 1) (a - 1 - ahF M.2.2.2 l (a - 1)) (ahF M.2.2.2 l (a - 1)) (cntF M.2.2.2 (l - 1) (a - 1 - ahF M.2.2.2 l (a - 1)) (ahF M.2.2.2 l (a - 1)))) + 1) else upN M.2.2.2 (a - 1) (M.2.2.2 (a - 1) - 1) := by
              unfold helpA hA1
              split
              · rw [upN_comm (by omega)]
                congr 1
                unfold upN
                rw [if_neg (by omega)]
              · rfl
            rw [e]
            exact k3
          · exact absurd rfl q
        · exact absurd rfl q
      · exact absurd rfl q
    · exact absurd rfl q
  refine G_ald rfl mb rfl (by omega) (by decide) ?_
  rw [hI.1]
  refine G_if rfl (fun q => ?_) (fun q => ?_)
  · rw [h22] at q
    have q := ile q (by omega) (by omega)
    refine G_to [30] rfl ?_
    exact ahd (by omega)
  · rw [h22] at q
    have q := nle q (by omega) (by omega)
    have hTb := hw.2 _ q
    refine G_ald rfl (mb + 81 + bhF M.1 M.2.2.2 l x) (by rw [h22]; exact ix81 mb _) (by omega) (by decide) ?_
    rw [(hI.2 _ q).2.2]
    refine G_if rfl (fun q2 => ?_) (fun q2 => ?_)
    · refine G_to [30] rfl ?_
      exact ahd (fun e => q2 (by rw [e.2]))
    · have q2 := ieq (Classical.not_not.mp q2) (by omega) (by omega)
      rw [if_pos ⟨q, q2⟩]
      generalize hbe : bhF M.1 M.2.2.2 l x = b at *
      have ht := bhF_le M.2.2.2 l (show b + 1 ≤ M.1 by omega)
      have hc1 : 1 ≤ cntF M.2.2.2 (l - 1) (bhF M.1 M.2.2.2 l (b + 1) - (b + 1)) (b + 1) := by
        obtain ⟨s1, s2⟩ := bhF_sp M.2.2.2 l (show b + 1 ≤ M.1 by omega)
        obtain ⟨r, r1, r2, r3⟩ := hLB l hl ⟨b, by omega, by omega⟩ (b + 1) (bhF M.1 M.2.2.2 l (b + 1) + 1) (by omega) (by omega) (Or.inr (Or.inr ⟨by omega, by omega, by simpa using Nat.le_of_eq q2.symm⟩)) (by
          rcases s1 with q | q
          · exact Or.inr (Or.inl (by omega))
          · exact Or.inr (Or.inr ⟨by omega, by omega, by simpa using q.2⟩))
        exact cntF_pos _ _ _ _ (r - 1) (by omega) (by omega) r3
      have hcl := cntF_le M.2.2.2 (l - 1) (bhF M.1 M.2.2.2 l (b + 1) - (b + 1)) (b + 1)
      refine G_if rfl (fun q3 => ?_) (fun q3 => ?_)
      · exact absurd q3 (by decide)
      · refine G_callv rfl (by rw [h22, nI_1]) (ev_layGap_21 hI hw hm (l := l) (q := b) (f := b + 1) (by omega) (by omega) (by omega)) ?_
        rintro r1 σ2 ⟨rfl, hf2, g21, g22⟩
        have hI2 := hf2.is (by decide) hI
        refine G_if rfl (fun q3 => ?_) (fun q3 => ?_)
        · exact absurd q3 (by decide)
        · refine G_if rfl (fun q3 => ?_) (fun q3 => ?_)
          · exact absurd q3 (by decide)
          · refine G_callv rfl (by rw [g22, h22, lm1 hl, nI_pred]) (ev_between_21 hI2 hw hm (a := b + 1) (b := bhF M.1 M.2.2.2 l (b + 1)) (h := l - 1) (by omega) (by omega) (by omega)) ?_
            rintro r1 σ3 ⟨rfl, rfl⟩
            obtain ⟨n1, n2, n3⟩ := nthF_in M.2.2.2 (l - 1) (bhF M.1 M.2.2.2 l (b + 1) - (b + 1)) (b + 1) 1 (Nat.le_refl _) hc1
            refine G_if rfl (fun q3 => ?_) (fun q3 => ?_)
            · exact absurd q3 (by decide)
            · refine G_callv rfl (by rw [g22, h22, lm1 hl, nI_pred]; rfl) (ev_placeOf_21 hI2 hw hm (a := b + 1) (b := bhF M.1 M.2.2.2 l (b + 1)) (h := l - 1) (w := 0) (by omega) (by omega) (by omega) (by omega)) ?_
              rintro r1 σ4 ⟨rfl, rfl⟩
              refine G_to [138] rfl ?_
              refine (fin b (nthF M.2.2.2 (l - 1) (bhF M.1 M.2.2.2 l (b + 1) - (b + 1)) (b + 1) 1) _ _ _ _ _ _ _ _ hI2 (hf2.p (by decide)) (by omega) (by omega) (by omega) (by omega) h22 rfl (by omega) (fun _ => rfl)).mono ?_
              rintro r σ' ⟨k1, k2, k3⟩
              refine ⟨k1, k2, ?_⟩
              have e : helpB M.1 M.2.2.2 l b = if 2 ≤ cntF M.2.2.2 (l - 1) (bhF M.1 M.2.2.2 l (b + 1) - (b + 1)) (b + 1) then upN (upN M.2.2.2 b (M.2.2.2 b - 1)) (nthF M.2.2.2 (l - 1) (bhF M.1 M.2.2.2 l (b + 1) - (b + 1)) (b + 1) 1) (M.2.2.2 (nthF M.2.2.2 (l - 1) (bhF M.1 M.2.2.2 l (b + 1) - (b + 1)) (b + 1) 1) + 1) else upN M.2.2.2 b (M.2.2.2 b - 1) := by
                unfold helpB hB1
                split
                · rw [upN_comm (by omega)]
                  congr 1
                  unfold upN
                  rw [if_neg (by omega)]
                · rfl
              rw [e]
              exact k3
theorem ev_help_22 (hI : isP σ 22 mb M) (hw : wfT M) (hm : mb + 121 ≤ 242) {l x : Nat} (hl : 1 ≤ l) (hl2 : l < 63) (hx : x ≤ M.1) (h21 : σ.1 6 0 21 = nI (ahF M.2.2.2 l x) - 1) (h22 : σ.1 6 0 22 = nI (bhF M.1 M.2.2.2 l x)) (hc : cntF M.2.2.2 (l - 1) (bhF M.1 M.2.2.2 l x - ahF M.2.2.2 l x) (ahF M.2.2.2 l x) = 1)
    (hAB : ¬ (bhF M.1 M.2.2.2 l x < M.1 ∧ M.2.2.2 (bhF M.1 M.2.2.2 l x) = l) → 0 < ahF M.2.2.2 l x) (hLB : LB M.1 M.2.2.2) : Ev 112 [rMo, rP 22, .inl (nI mb), .inl (nI l)] σ (fun r σ' => r = none ∧ frP 22 mb σ σ' ∧ isP σ' 22 mb (setT M (helpF M.1 M.2.2.2 l x))) := by
  have hn := hw.1
  have ha := ahF_le M.2.2.2 l x
  have hb := bhF_le M.2.2.2 l hx
  -- the end: the fence down, the nearest up
  have fin : ∀ (f q c : Nat) (σ1 : Hp) (x4 x5 x6 x7 x8 x9 : Int32), isP σ1 22 mb M → frP 22 mb σ σ1 → f < M.1 → q < M.1 → f ≠ q → 1 ≤ M.2.2.2 f → x5 = nI f → x8 = nI c → c < 100 → (2 ≤ c → x9 = nI q) → RR 112 138 [some rMo, some (rP 22), some (.inl (nI mb)), some (.inl (nI l)), some (.inl x4), some (.inl x5), some (.inl x6), some (.inl x7), some (.inl x8), some (.inl x9)] [] σ1 (fun r σ' => r = none ∧ frP 22 mb σ σ' ∧ isP σ' 22 mb (setT M (if 2 ≤ c then upN (upN M.2.2.2 f (M.2.2.2 f - 1)) q (M.2.2.2 q + 1) else upN M.2.2.2 f (M.2.2.2 f - 1)))) := by
    intro f q c σ1 x4 x5 x6 x7 x8 x9 hI1 hf1 hf hq hfq hTf hx5 hx8 hcl hx9
    refine G_ald rfl (mb + 81 + f) (by rw [hx5]; exact ix81 mb f) (by omega) (by decide) ?_
    refine G_ast rfl (mb + 81 + f) (by rw [hx5]; exact ix81 mb f) (by omega) (by decide) ?_
    rw [(hI1.2 f hf).2.2, lm1 hTf]
    have hI2 := isP_up (v := M.2.2.2 f - 1) hI1 hn (q := f) (by omega)
    have hf2 : frP 22 mb σ (hset σ1.1 22 0 (mb + 81 + f) (nI (M.2.2.2 f - 1)), σ1.2) := hf1.st (by decide) (by omega)
    generalize (hset σ1.1 22 0 (mb + 81 + f) (nI (M.2.2.2 f - 1)), σ1.2) = σ2 at hI2 hf2 ⊢
    refine G_if rfl (fun h => ?_) (fun h => ?_)
    · rw [hx8] at h
      have h := ile (b := 1) h (by omega) (by decide)
      rw [if_neg (by omega)]
      exact G_ret rfl ⟨rfl, hf2, hI2⟩
    · rw [hx8] at h
      have h := nle (b := 1) h (by omega) (by decide)
      have hx9 := hx9 (by omega)
      refine G_ald rfl (mb + 81 + q) (by rw [hx9]; exact ix81 mb q) (by omega) (by decide) ?_
      refine G_ast rfl (mb + 81 + q) (by rw [hx9]; exact ix81 mb q) (by omega) (by decide) ?_
      rw [(hI2.2 q hq).2.2]
      have e : (setT M (upN M.2.2.2 f (M.2.2.2 f - 1))).2.2.2 q = M.2.2.2 q := by
        show upN M.2.2.2 f (M.2.2.2 f - 1) q = _
        unfold upN
        rw [if_neg (by omega)]
      rw [e, nI_1, if_pos (by omega)]
      exact G_ret rfl ⟨rfl, hf2.st (by decide) (by omega), isP_up (v := M.2.2.2 q + 1) hI2 hn (q := q) (by omega)⟩
  unfold helpF
  rw [if_pos hc]
  -- ahead
  have ahd : ¬ (bhF M.1 M.2.2.2 l x < M.1 ∧ M.2.2.2 (bhF M.1 M.2.2.2 l x) = l) → RR 112 30 [some rMo, some (rP 22), some (.inl (nI mb)), some (.inl (nI l)), none, none, none, none, none, none] [.inl 0] σ (fun r σ' => r = none ∧ frP 22 mb σ σ' ∧ isP σ' 22 mb (setT M (if bhF M.1 M.2.2.2 l x < M.1 ∧ M.2.2.2 (bhF M.1 M.2.2.2 l x) = l then helpB M.1 M.2.2.2 l (bhF M.1 M.2.2.2 l x) else if 0 < ahF M.2.2.2 l x then helpA M.2.2.2 l (ahF M.2.2.2 l x - 1) else M.2.2.2))) := by
    intro hno
    have hapos := hAB hno
    rw [if_neg hno, if_pos hapos]
    have hat := ahF_at M.2.2.2 l x (ahF M.2.2.2 l x - 1) (by omega)
    generalize hae : ahF M.2.2.2 l x = a at *
    have hs := ahF_le M.2.2.2 l (a - 1)
    have ea : nI a - 1 = nI (a - 1) := lm1 hapos
    -- the gap ahead of the fence has one
    have hc1 : 1 ≤ cntF M.2.2.2 (l - 1) (a - 1 - ahF M.2.2.2 l (a - 1)) (ahF M.2.2.2 l (a - 1)) := by
      obtain ⟨s1, s2⟩ := ahF_sp M.2.2.2 l (a - 1)
      obtain ⟨r, r1, r2, r3⟩ := hLB l hl ⟨a - 1, by omega, hat⟩ (ahF M.2.2.2 l (a - 1)) a (by omega) (by omega) (by
        rcases s1 with q | q
        · exact Or.inl q
        · rcases Nat.eq_zero_or_pos (ahF M.2.2.2 l (a - 1)) with q2 | q2
          · exact Or.inl q2
          · exact Or.inr (Or.inr ⟨q2, by omega, q⟩)) (Or.inr (Or.inr ⟨by omega, by omega, hat⟩))
      exact cntF_pos _ _ _ _ (r - 1) (by omega) (by omega) r3
    have hcl := cntF_le M.2.2.2 (l - 1) (a - 1 - ahF M.2.2.2 l (a - 1)) (ahF M.2.2.2 l (a - 1))
    refine G_if rfl (fun q => ?_) (fun q => ?_)
    · refine G_callv rfl (by rw [h21, ea, nI_1, show a - 1 + 1 = a by omega]) (ev_layGap_22 hI hw hm (l := l) (q := a - 1) (f := a) (by omega) (by omega) (by omega)) ?_
      rintro r1 σ2 ⟨rfl, hf2, g21, g22⟩
      have hI2 := hf2.is (by decide) hI
      refine G_if rfl (fun q => ?_) (fun q => ?_)
      · refine G_if rfl (fun q => ?_) (fun q => ?_)
        · refine G_callv rfl (by rw [g21, h21, ea, lm1 hl]) (ev_between_22 hI2 hw hm (a := ahF M.2.2.2 l (a - 1)) (b := a - 1) (h := l - 1) (by omega) (by omega) (by omega)) ?_
          rintro r1 σ3 ⟨rfl, rfl⟩
          obtain ⟨n1, n2, n3⟩ := nthF_in M.2.2.2 (l - 1) (a - 1 - ahF M.2.2.2 l (a - 1)) (ahF M.2.2.2 l (a - 1)) (cntF M.2.2.2 (l - 1) (a - 1 - ahF M.2.2.2 l (a - 1)) (ahF M.2.2.2 l (a - 1))) hc1 (Nat.le_refl _)
          refine G_if rfl (fun q => ?_) (fun q => ?_)
          · refine G_callv rfl (by rw [g21, h21, ea, lm1 hl, lm1 hc1]) (ev_placeOf_22 hI2 hw hm (a := ahF M.2.2.2 l (a - 1)) (b := a - 1) (h := l - 1) (w := cntF M.2.2.2 (l - 1) (a - 1 - ahF M.2.2.2 l (a - 1)) (ahF M.2.2.2 l (a - 1)) - 1) (by omega) (by omega) (by omega) (by omega)) ?_
            rintro r1 σ4 ⟨rfl, rfl⟩
            rw [show cntF M.2.2.2 (l - 1) (a - 1 - ahF M.2.2.2 l (a - 1)) (ahF M.2.2.2 l (a - 1)) - 1 + 1 = cntF M.2.2.2 (l - 1) (a - 1 - ahF M.2.2.2 l (a - 1)) (ahF M.2.2.2 l (a - 1)) by omega]
            refine G_to [138] rfl ?_
            refine (fin (a - 1) (nthF M.2.2.2 (l - 1) (a - 1 - ahF M.2.2.2 l (a - 1)) (ahF M.2.2.2 l (a - 1)) (cntF M.2.2.2 (l - 1) (a - 1 - ahF M.2.2.2 l (a - 1)) (ahF M.2.2.2 l (a - 1)))) _ _ _ _ _ _ _ _ hI2 (hf2.p (by decide)) (by omega) (by omega) (by omega) (by omega) (by rw [h21, ea]) rfl (by omega) (fun _ => rfl)).mono ?_
            rintro r σ' ⟨k1, k2, k3⟩
            refine ⟨k1, k2, ?_⟩
            have e : helpA M.2.2.2 l (a - 1) = if 2 ≤ cntF M.2.2.2 (l - 1) (a - 1 - ahF M.2.2.2 l (a - 1)) (ahF M.2.2.2 l (a - 1)) then upN (upN M.2.2.2 (a - 1) (M.2.2.2 (a - 1) - 1)) (nthF M.2.2.2 (l - 1) (a - 1 - ahF M.2.2.2 l (a - 1)) (ahF M.2.2.2 l (a - 1)) (cntF M.2.2.2 (l - 1) (a - 1 - ahF M.2.2.2 l (a - 1)) (ahF M.2.2.2 l (a - 1)))) (M.2.2.2 (nthF M.2.2.2 (l - 1) (a - 1 - ahF M.2.2.2 l (a - 1)) (ahF M.2.2.2 l (a - 1)) (cntF M.2.2.2 (l - 1) (a - 1 - ahF M.2.2.2 l (a - 1)) (ahF M.2.2.2 l (a - 1)))) + 1) else upN M.2.2.2 (a - 1) (M.2.2.2 (a - 1) - 1) := by
              unfold helpA hA1
              split
              · rw [upN_comm (by omega)]
                congr 1
                unfold upN
                rw [if_neg (by omega)]
              · rfl
            rw [e]
            exact k3
          · exact absurd rfl q
        · exact absurd rfl q
      · exact absurd rfl q
    · exact absurd rfl q
  refine G_ald rfl mb rfl (by omega) (by decide) ?_
  rw [hI.1]
  refine G_if rfl (fun q => ?_) (fun q => ?_)
  · rw [h22] at q
    have q := ile q (by omega) (by omega)
    refine G_to [30] rfl ?_
    exact ahd (by omega)
  · rw [h22] at q
    have q := nle q (by omega) (by omega)
    have hTb := hw.2 _ q
    refine G_ald rfl (mb + 81 + bhF M.1 M.2.2.2 l x) (by rw [h22]; exact ix81 mb _) (by omega) (by decide) ?_
    rw [(hI.2 _ q).2.2]
    refine G_if rfl (fun q2 => ?_) (fun q2 => ?_)
    · refine G_to [30] rfl ?_
      exact ahd (fun e => q2 (by rw [e.2]))
    · have q2 := ieq (Classical.not_not.mp q2) (by omega) (by omega)
      rw [if_pos ⟨q, q2⟩]
      generalize hbe : bhF M.1 M.2.2.2 l x = b at *
      have ht := bhF_le M.2.2.2 l (show b + 1 ≤ M.1 by omega)
      have hc1 : 1 ≤ cntF M.2.2.2 (l - 1) (bhF M.1 M.2.2.2 l (b + 1) - (b + 1)) (b + 1) := by
        obtain ⟨s1, s2⟩ := bhF_sp M.2.2.2 l (show b + 1 ≤ M.1 by omega)
        obtain ⟨r, r1, r2, r3⟩ := hLB l hl ⟨b, by omega, by omega⟩ (b + 1) (bhF M.1 M.2.2.2 l (b + 1) + 1) (by omega) (by omega) (Or.inr (Or.inr ⟨by omega, by omega, by simpa using Nat.le_of_eq q2.symm⟩)) (by
          rcases s1 with q | q
          · exact Or.inr (Or.inl (by omega))
          · exact Or.inr (Or.inr ⟨by omega, by omega, by simpa using q.2⟩))
        exact cntF_pos _ _ _ _ (r - 1) (by omega) (by omega) r3
      have hcl := cntF_le M.2.2.2 (l - 1) (bhF M.1 M.2.2.2 l (b + 1) - (b + 1)) (b + 1)
      refine G_if rfl (fun q3 => ?_) (fun q3 => ?_)
      · exact absurd q3 (by decide)
      · refine G_callv rfl (by rw [h22, nI_1]) (ev_layGap_22 hI hw hm (l := l) (q := b) (f := b + 1) (by omega) (by omega) (by omega)) ?_
        rintro r1 σ2 ⟨rfl, hf2, g21, g22⟩
        have hI2 := hf2.is (by decide) hI
        refine G_if rfl (fun q3 => ?_) (fun q3 => ?_)
        · exact absurd q3 (by decide)
        · refine G_if rfl (fun q3 => ?_) (fun q3 => ?_)
          · exact absurd q3 (by decide)
          · refine G_callv rfl (by rw [g22, h22, lm1 hl, nI_pred]) (ev_between_22 hI2 hw hm (a := b + 1) (b := bhF M.1 M.2.2.2 l (b + 1)) (h := l - 1) (by omega) (by omega) (by omega)) ?_
            rintro r1 σ3 ⟨rfl, rfl⟩
            obtain ⟨n1, n2, n3⟩ := nthF_in M.2.2.2 (l - 1) (bhF M.1 M.2.2.2 l (b + 1) - (b + 1)) (b + 1) 1 (Nat.le_refl _) hc1
            refine G_if rfl (fun q3 => ?_) (fun q3 => ?_)
            · exact absurd q3 (by decide)
            · refine G_callv rfl (by rw [g22, h22, lm1 hl, nI_pred]; rfl) (ev_placeOf_22 hI2 hw hm (a := b + 1) (b := bhF M.1 M.2.2.2 l (b + 1)) (h := l - 1) (w := 0) (by omega) (by omega) (by omega) (by omega)) ?_
              rintro r1 σ4 ⟨rfl, rfl⟩
              refine G_to [138] rfl ?_
              refine (fin b (nthF M.2.2.2 (l - 1) (bhF M.1 M.2.2.2 l (b + 1) - (b + 1)) (b + 1) 1) _ _ _ _ _ _ _ _ hI2 (hf2.p (by decide)) (by omega) (by omega) (by omega) (by omega) h22 rfl (by omega) (fun _ => rfl)).mono ?_
              rintro r σ' ⟨k1, k2, k3⟩
              refine ⟨k1, k2, ?_⟩
              have e : helpB M.1 M.2.2.2 l b = if 2 ≤ cntF M.2.2.2 (l - 1) (bhF M.1 M.2.2.2 l (b + 1) - (b + 1)) (b + 1) then upN (upN M.2.2.2 b (M.2.2.2 b - 1)) (nthF M.2.2.2 (l - 1) (bhF M.1 M.2.2.2 l (b + 1) - (b + 1)) (b + 1) 1) (M.2.2.2 (nthF M.2.2.2 (l - 1) (bhF M.1 M.2.2.2 l (b + 1) - (b + 1)) (b + 1) 1) + 1) else upN M.2.2.2 b (M.2.2.2 b - 1) := by
                unfold helpB hB1
                split
                · rw [upN_comm (by omega)]
                  congr 1
                  unfold upN
                  rw [if_neg (by omega)]
                · rfl
              rw [e]
              exact k3
end MO
