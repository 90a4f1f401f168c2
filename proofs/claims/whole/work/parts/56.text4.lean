/-! The model's shape. -/
section TX
variable {σ : Hp} {t : TX}
def mRd (σ : Hp) (t : TX) (n : Nat) : Prop := σ.1 6 0 5 = nI n ∧ ∀ i, i < n → σ.1 20 0 (1 + i) = nI (tK t i) ∧ σ.1 20 0 (41 + i) = nI (tV t i) ∧ σ.1 20 0 (81 + i) = nI (tT t i)
theorem ev_readShape (ht : mTxt σ t) (hl : t.1 ≤ 64) (h256 : ∀ i, i < t.1 → t.2 i < 256) : Ev 92 [rMo] σ (fun r σ' => r = some (.inl (faultF t)) ∧ frT σ σ' ∧ (faultF t = -9 → mRd σ' t ((t.1 - 1) / 3))) := by
  unfold faultF
  have l3 : ∀ (k rh : Nat) (O : Nat → Nat) (σc : Hp), mR σc t k O rh → PI (tT t) k O rh → frT σ σc → t.1 = 1 + 3 * k → ∀ (n l : Nat) (x1 x2 : Int32), l + n = rh + 1 → 1 ≤ l → x2 = nI l → x1 = ifI (∀ i, i + 1 < l → 0 < O i) → RR 92 88 [some rMo, some (.inl x1), some (.inl x2)] [] σc (fun r σ' => r = some (.inl (gt (clO O) (-9) (nI t.1))) ∧ frT σ σ' ∧ (gt (clO O) (-9) (nI t.1) = -9 → mRd σ' t ((t.1 - 1) / 3))) := by
    intro k rh O σc hR hp hf hk n
    have hg := hp.g
    have htc := hf.tx ht
    have c6 : σc.1 6 0 6 = nI rh := hR.2.2.1
    induction n with
    | zero =>
      intro l x1 x2 hln h1 hx2 hx1
      refine G_if rfl (fun q => ?_) (fun q => ?_)
      · by_cases hc : clO O
        · have e1 : x1 = 1 := by
            rw [hx1]
            exact gt_t (fun i hi => hp.cl.mp hc i (by omega))
          rw [e1, gt_t hc]
          refine G_if rfl (fun q2 => absurd q2 (by decide)) (fun q2 => ?_)
          refine G_ret rfl ⟨rfl, hf, fun _ => ?_⟩
          rw [show (t.1 - 1) / 3 = k by omega]
          exact ⟨hR.2.1, hR.2.2.2.2⟩
        · have e1 : x1 = 0 := by
            rw [hx1]
            exact gt_f (fun e => hc (hp.cl.mpr (fun i hi => e i (by omega))))
          rw [e1, gt_f hc]
          refine G_if rfl (fun q2 => ?_) (fun q2 => absurd rfl q2)
          exact G_ret rfl ⟨by rw [htc.1], hf, fun e => absurd e (no9 (by omega))⟩
      · rw [hx2, c6] at q
        have := nlt q (by omega) (by omega)
        omega
    | succ n ih =>
      intro l x1 x2 hln h1 hx2 hx1
      refine G_if rfl (fun q => ?_) (fun q => ?_)
      · rw [hx2, c6] at q
        have := ilt q (by omega) (by omega)
        omega
      · by_cases e : ∀ i, i + 1 < l → 0 < O i
        · have e1 : x1 = 1 := by rw [hx1]; exact gt_t e
          rw [e1]
          refine G_if rfl (fun q2 => absurd q2 (by decide)) (fun q2 => ?_)
          have ho := hR.2.2.2.1 (l - 1) (by omega)
          rw [show l - 1 + 1 = l by omega] at ho
          have ho3 := hp.f (l - 1)
          refine G_ald rfl l hx2 (by omega) (by decide) ?_
          rw [ho]
          refine G_if rfl (fun q3 => ?_) (fun q3 => ?_)
          · have q3 := ile (b := 0) q3 (by omega) (by decide)
            refine G_to [88] rfl ?_
            refine ih (l + 1) _ _ (by omega) (by omega) (by rw [hx2, nI_1]) ?_
            exact (gt_f (fun e2 => by have := e2 (l - 1) (by omega); omega)).symm
          · have q3 := nle (b := 0) q3 (by omega) (by decide)
            refine G_to [88] rfl ?_
            refine ih (l + 1) _ _ (by omega) (by omega) (by rw [hx2, nI_1]) ?_
            refine (gt_t (fun i hi => ?_)).symm
            by_cases e2 : i = l - 1
            · rw [e2]
              exact q3
            · exact e i (by omega)
        · have e1 : x1 = 0 := by rw [hx1]; exact gt_f e
          rw [e1]
          refine G_if rfl (fun q2 => ?_) (fun q2 => absurd rfl q2)
          refine G_to [88] rfl ?_
          refine ih (l + 1) _ _ (by omega) (by omega) (by rw [hx2, nI_1]) ?_
          exact (gt_f (fun e2 => e (fun i hi => e2 i (by omega)))).symm
  have l2 : ∀ (n k rh : Nat) (O : Nat → Nat) (σc : Hp) (a1 a2 : Option PV), 22 ≤ k + n → 1 + 3 * k ≤ t.1 → PI (tT t) k O rh → mR σc t k O rh → frT σ σc → RR 92 61 [some rMo, a1, a2] [] σc (fun r σ' => r = some (.inl (rdF t n k O)) ∧ frT σ σ' ∧ (rdF t n k O = -9 → mRd σ' t ((t.1 - 1) / 3))) := by
    intro n
    induction n with
    | zero =>
      intro k rh O σc a1 a2 hn hk hp hR hf
      omega
    | succ n ih =>
      intro k rh O σc a1 a2 hn hk hp hR hf
      have htc := hf.tx ht
      have c3 : σc.1 6 0 3 = nI (1 + 3 * k) := hR.1
      unfold rdF
      by_cases h1 : 1 + 3 * k = t.1
      · rw [gt_t h1]
        refine G_if rfl (fun q => ?_) (fun q => ?_)
        · refine G_to [88] rfl ?_
          exact l3 k rh O σc hR hp hf h1.symm rh 1 _ _ (by omega) (by omega) rfl (gt_t (fun i hi => by omega)).symm
        · rw [c3, htc.1, h1] at q
          exact absurd (nI_le (Nat.le_refl _) (by omega)) q
      · rw [gt_f h1]
        refine G_if rfl (fun q => ?_) (fun q => ?_)
        · rw [c3, htc.1] at q
          exact absurd (ile q (by omega) (by omega)) (by omega)
        · refine G_call rfl (ev_readItem htc hl h256 hR hp (by omega)) ?_
          rintro r1 σ1 ⟨f1, ⟨⟨h2, h3, h4⟩, rfl, hR1⟩ | ⟨h2, rfl, h3⟩⟩
          · rw [gt_t h2, gt_t h3, gt_t h4]
            refine G_if rfl (fun q2 => ?_) (fun q2 => absurd (by decide) q2)
            refine ih (k + 1) _ _ σ1 _ _ (by omega) (by have := h4.1; omega) (hp.s ?_ h2.2) hR1 (hf.tr f1)
            have := h2.1.2.2
            unfold tT
            omega
          · refine G_if rfl (fun q2 => absurd rfl q2) (fun q2 => ?_)
            refine G_ret rfl ⟨?_, hf.tr f1, ?_⟩
            · rw [h3]
              by_cases g1 : dg t (1 + 3 * k) 0 5 ∧ mayO O (tT t k)
              · rw [gt_t g1, gt_t g1]
                by_cases g2 : dg t (2 + 3 * k) 1 4
                · rw [gt_t g2, gt_t g2, gt_f (fun e => h2 ⟨g1, g2, e⟩)]
                · rw [gt_f g2, gt_f g2]
              · rw [gt_f g1, gt_f g1]
            · intro e
              exfalso
              by_cases g1 : dg t (1 + 3 * k) 0 5 ∧ mayO O (tT t k)
              · rw [gt_t g1] at e
                by_cases g2 : dg t (2 + 3 * k) 1 4
                · rw [gt_t g2, gt_f (fun e => h2 ⟨g1, g2, e⟩)] at e
                  exact no9 (by omega) e
                · rw [gt_f g2] at e
                  exact no9 (by omega) e
              · rw [gt_f g1] at e
                exact no9 (by omega) e
  have l1 : ∀ (n i : Nat) (σc : Hp) (x1 : Int32) (a2 : Option PV), i + n = 8 → x1 = nI i → (∀ l, l < i → σc.1 19 0 l = nI 0) → frT σ σc → σc.1 6 0 5 = nI 0 → σc.1 6 0 6 = nI 0 → RR 92 17 [some rMo, some (.inl x1), a2] [] σc (fun r σ' => r = some (.inl (gt (t.1 = 0 ∨ t.2 0 ≠ 76) 0 (rdF t 22 0 (fun _ => 0)))) ∧ frT σ σ' ∧ (gt (t.1 = 0 ∨ t.2 0 ≠ 76) 0 (rdF t 22 0 (fun _ => 0)) = -9 → mRd σ' t ((t.1 - 1) / 3))) := by
    intro n
    induction n with
    | zero =>
      intro i σc x1 a2 hi hx hz hf c5 c6
      have htc := hf.tx ht
      refine G_if rfl (fun q => ?_) (fun q => ?_)
      · refine G_if rfl (fun q => ?_) (fun q => ?_)
        · rw [htc.1] at q
          rw [gt_t (Or.inl (ieq (b := 0) q (by omega) (by decide)))]
          exact G_ret rfl ⟨rfl, hf, fun e => absurd e (by decide)⟩
        · rw [htc.1] at q
          have h0 : t.1 ≠ 0 := fun e => q (by rw [e]; rfl)
          refine G_ald rfl 0 rfl (by omega) (by decide) ?_
          rw [htc.2 0 (by omega)]
          have hc := h256 0 (by omega)
          refine G_if rfl (fun q2 => ?_) (fun q2 => ?_)
          · have q2 := ieq (b := 76) q2 (by omega) (by decide)
            rw [gt_f (fun e => by omega)]
            refine G_to [61] rfl ?_
            exact l2 22 0 0 _ _ _ _ (by omega) (by omega) (PI.z _) ⟨rfl, c5, c6, fun l hl => hz (l + 1) (by omega), fun i hi => by omega⟩ (hf.x (by decide))
          · rw [gt_t (Or.inr (fun e => q2 (by rw [e]; rfl)))]
            exact G_ret rfl ⟨rfl, hf, fun e => absurd e (by decide)⟩
      · rw [hx] at q
        have := nle (a := 8) q (by decide) (by omega)
        omega
    | succ n ih =>
      intro i σc x1 a2 hi hx hz hf c5 c6
      refine G_if rfl (fun q => ?_) (fun q => ?_)
      · rw [hx] at q
        have := ile (a := 8) q (by decide) (by omega)
        omega
      · refine G_ast rfl i hx (by omega) (by decide) ?_
        refine G_to [17] rfl ?_
        refine ih (i + 1) _ _ _ (by omega) (by rw [hx, nI_1]) (fun l hl => ?_) (hf.y (by decide)) c5 c6
        show hset σc.1 19 0 i 0 19 0 l = _
        by_cases e : l = i
        · rw [e, ix_eq0]
          rfl
        · rw [hs_ne e]
          exact hz l (by omega)
  refine G_to [17] rfl ?_
  exact l1 8 0 _ _ _ rfl nI_0.symm (fun l hl => by omega) ((((frT.rf σ).x (by decide)).x (by decide)).x (by decide)) rfl rfl
end TX
theorem m_fault {S : SS} (hS : SI S) : MSpec 91 [] S (.inl (faultF S.2.2.2.1)) S := by
  intro σ hM
  have hM0 := hM.scr (frS.th σ)
  have hc0 := (frS.th σ).c
  refine G_call rfl (ev_readShape hM0.2.2.2.1 hS.2.2.2.1.1 hS.2.2.2.1.2) ?_
  rintro r1 σ1 ⟨rfl, f1, -⟩
  exact G_ret rfl ⟨rfl, hM0.t f1, hc0.tr f1.c⟩
theorem m_shape {S : SS} (hS : SI S) (x : Int32) : MSpec 96 [.inl x] S (.inl (fShape S x)) (nShape S x) := by
  intro σ hM
  have hM0 := hM.scr (frS.th σ)
  have hc0 := (frS.th σ).c
  unfold fShape nShape
  refine G_call rfl (ev_noMap x _) ?_
  rintro r1 σ1 ⟨rfl, ⟨a1, a2, rfl⟩ | ⟨h1, rfl⟩⟩
  · have h1 : okM x := i01'.mp ⟨a1, a2⟩
    refine G_if rfl (fun q => ?_) (fun q => absurd rfl q)
    rw [gt_t h1, gt_t h1]
    refine G_call rfl (ev_readShape hM0.2.2.2.1 hS.2.2.2.1.1 hS.2.2.2.1.2) ?_
    rintro r1 σ2 ⟨rfl, f2, hrd⟩
    have hM2 := hM0.t f2
    refine G_if rfl (fun q2 => ?_) (fun q2 => ?_)
    · rw [gt_t q2, gt_t q2]
      obtain ⟨m, hm, rfl⟩ := okM_nat h1
      rw [nI_clamp (by omega)]
      have hlen := hS.2.2.2.1.1
      obtain ⟨d5, d20⟩ := hrd q2
      have hnv := (faultF_ok hS.2.2.2.1.1 q2).2
      refine G_call rfl (ev_note2 hM2 hS) ?_
      rintro r1 σ3 ⟨rfl, hM3, m3, k3, s3⟩
      have e5 : σ3.1 6 0 5 = nI ((S.2.2.2.1.1 - 1) / 3) := by rw [s3 5 (by decide), d5]
      refine G_ast rfl 0 rfl (by omega) (by decide) ?_
      rw [e5]
      have loop : ∀ (σ4 : Hp), σ4 = (hset σ3.1 20 0 0 (nI ((S.2.2.2.1.1 - 1) / 3)), σ3.2) → ∀ (n i : Nat) (xi : Int32) (σc : Hp), xi = nI i → i + n = 121 → cpI σ4 σc 21 20 (0 + 121 * m) 0 i → RR 96 42 [some rMo, some (.inl (nI m)), some (.inl xi)] [] σc (fun r σ' => r = some (.inl (nI ((S.2.2.2.1.1 - 1) / 3))) ∧ MS σ' (upB S.1 m (shM S.2.2.2.1 ((S.2.2.2.1.1 - 1) / 3)), pushH S.2.1 S.1, S.2.2) ∧ cEq σ σ') := by
        intro σ4 h4 n
        have f4 : frT σ3 σ4 := by rw [h4]; exact (frT.rf σ3).y (by decide)
        have hM4 := hM3.t f4
        induction n with
        | zero =>
          intro i xi σc hx hi hc
          have hi : i = 121 := hi
          subst hi
          have fG : frG σ4 σc := ⟨fun k i _ q2 => by rw [hc.1 k q2], fun s _ => by rw [hc.1 6 (by decide)], hc.2.1⟩
          have hB : isPB σc 21 0 (upB S.1 m (shM S.2.2.2.1 ((S.2.2.2.1.1 - 1) / 3))) := by
            have hat : ∀ z, z < 121 → σc.1 21 0 (0 + 121 * m + z) = σ4.1 20 0 (0 + z) := hc.at
            have hn40 : (S.2.2.2.1.1 - 1) / 3 ≤ 40 := by omega
            have hP : isP σc 21 (0 + 121 * m) (shM S.2.2.2.1 ((S.2.2.2.1.1 - 1) / 3)) := by
              refine ⟨?_, fun i hi => ?_⟩
              · have := hat 0 (by decide)
                rw [Nat.add_zero] at this
                rw [this, h4]
                rfl
              · have hi : i < (S.2.2.2.1.1 - 1) / 3 := hi
                obtain ⟨g1, g2, g3⟩ := d20 i hi
                have ec : ∀ z, z ≠ 0 → σ4.1 20 0 (0 + z) = σ2.1 20 0 z := fun z hz => by
                  rw [Nat.zero_add, h4]
                  show hset σ3.1 20 0 0 _ 20 0 z = _
                  rw [hs_ne hz, k3 20 (by decide) (by decide)]
                refine ⟨?_, ?_, ?_⟩
                · rw [Nat.add_assoc, hat _ (by omega), ec _ (by omega), g1]
                  rfl
                · rw [Nat.add_assoc, hat _ (by omega), ec _ (by omega), g2]
                  rfl
                · rw [Nat.add_assoc, hat _ (by omega), ec _ (by omega), g3]
                  rfl
            have hz := hS.1.sz
            match m, hm with
            | 0, _ =>
              refine ⟨hP, ?_⟩
              have h2 := hM4.1.2
              have eo : ∀ z, 121 ≤ z → σc.1 21 0 z = σ4.1 21 0 z := fun z hz => hc.out z (by omega)
              refine ⟨by rw [eo _ (by omega)]; exact h2.1, fun i hi => ?_⟩
              have := h2.2 i hi
              rw [eo _ (by omega), eo _ (by omega), eo _ (by omega)]
              exact this
            | 1, _ =>
              refine ⟨?_, hP⟩
              have h2 := hM4.1.1
              have eo : ∀ z, z < 121 → σc.1 21 0 z = σ4.1 21 0 z := fun z hz => hc.out z (by omega)
              refine ⟨by rw [eo _ (by omega)]; exact h2.1, fun i hi => ?_⟩
              have := h2.2 i hi
              have h40 : S.1.1.1 ≤ 40 := hz.1
              have hi : i < S.1.1.1 := hi
              rw [eo _ (by omega), eo _ (by omega), eo _ (by omega)]
              exact this
          refine G_if rfl (fun q => ?_) (fun q => ?_)
          · refine G_ret rfl ⟨?_, hM4.nowG fG hB, ((hc0.tr f2.c).tr (m3.tr f4.c)).tr fG.c⟩
            rw [hc.1 6 (by decide), h4]
            exact congrArg (fun z => some (Sum.inl z)) e5
          · rw [hx] at q
            exact absurd (by decide) q
        | succ n ih =>
          intro i xi σc hx hi hc
          refine G_if rfl (fun q => ?_) (fun q => ?_)
          · rw [hx] at q
            exact absurd (ile (a := 121) q (by decide) (by omega)) (by omega)
          · refine G_ald rfl (0 + i) (by rw [hx, Nat.zero_add]) (by omega) (by decide) ?_
            refine G_ast rfl (0 + 121 * m + i) (by rw [hx, mb121, nI_add]) (by omega) (by decide) ?_
            refine G_to [42] rfl ?_
            exact ih (i + 1) _ _ (by rw [hx, nI_1]) (by omega) (hc.s (Or.inl (by decide)))
      refine G_to [42] rfl ?_
      exact loop _ rfl 121 0 _ _ nI_0.symm rfl (cpI.z _ _ _ _ _)
    · rw [gt_f q2, gt_f q2]
      exact G_ret rfl ⟨rfl, hM2, hc0.tr f2.c⟩
  · have h1 : ¬ okM x := fun q => h1 (i01'.mpr q)
    refine G_if rfl (fun q => absurd q (by decide)) (fun q => ?_)
    rw [gt_f h1, gt_f h1]
    exact G_ret rfl ⟨rfl, hM0, hc0⟩
