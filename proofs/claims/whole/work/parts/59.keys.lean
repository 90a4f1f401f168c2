/-! keys. -/
theorem lkI_fd (K T : Nat → Nat) (key l : Nat) : ∀ (m i hr c : Nat), (lkI K T key l m i hr c).1 = true → ∃ x, x < i + m ∧ K x = key
  | 0, _, _, _, h => by cases h
  | m + 1, i, hr, c, h => by
    unfold lkI at h
    split at h
    · obtain ⟨x, h1, h2⟩ := lkI_fd K T key l m (i + 1) hr c h
      exact ⟨x, by omega, h2⟩
    · split at h
      · next e => exact ⟨i, by omega, e⟩
      · split at h
        · cases h
        · obtain ⟨x, h1, h2⟩ := lkI_fd K T key l m (i + 1) (i + 1) (c + 1) h
          exact ⟨x, by omega, h2⟩
theorem lkO_fd (K T : Nat → Nat) (n key : Nat) : ∀ (lv hr c : Nat), hr ≤ n → (lkO K T n key lv hr c).1 = true → ∃ x, x < n ∧ K x = key
  | 0, _, _, _, h => by cases h
  | lv + 1, hr, c, hn, h => by
    have h1 := lkI_fd K T key lv (n - hr) hr hr c
    have h2 := lkI_le K T key lv (n - hr) hr hr c (Nat.le_refl _)
    unfold lkO at h
    revert h h1 h2
    cases hq : lkI K T key lv (n - hr) hr hr c with
    | mk b p =>
      cases p with
      | mk hr' c' =>
        cases b with
        | true =>
          intro h1 h2 h
          obtain ⟨x, h3, h4⟩ := h1 rfl
          exact ⟨x, by omega, h4⟩
        | false =>
          intro h1 h2 h
          have h2 : hr' ≤ hr + (n - hr) := h2
          exact lkO_fd K T n key lv hr' c' (by omega) h
theorem fd_has {M : AM} (hw : wfM M) (key : Nat) : (looksF M key).1 = true ↔ has M key := by
  constructor
  · intro h
    obtain ⟨x, h1, h2⟩ := lkO_fd _ _ _ _ _ _ _ (Nat.zero_le _) h
    exact (has_iff hw).mpr ⟨x, h1, h2⟩
  · intro h
    have := looksF_at hw h.1
    rw [h.2] at this
    rw [this]
def skI (S : SS) (key i : Nat) : Prop := (has (mp S.1 (S.2.2.2.2.1.2.1 i)) key ↔ S.2.2.2.2.1.2.2.2 i = 1) ∧ nI (looksF (mp S.1 (S.2.2.2.2.1.2.1 i)) key).2 = nI (S.2.2.2.2.1.2.2.1 i)
def skS (S : SS) (key : Nat) : Prop := ∀ i, i < S.2.2.2.2.1.1 → skI S key i
noncomputable def kcF (S : SS) : Nat → Nat → Nat → Int32 → Nat × Int32
  | 0, _, c, f => (c, f)
  | n + 1, key, c, f => gt (skS S key) (kcF S n (key + 1) (c + 1) (gt (f = -9) (nI key) f)) (kcF S n (key + 1) c f)
noncomputable def fKeys (S : SS) (w : Int32) : Int32 := gt (okM w) (gt (w = 0) (nI (kcF S 100 0 0 (-9)).1) (kcF S 100 0 0 (-9)).2) (-2)
theorem ev_isSo {σ : Hp} {S : SS} (hC : CS σ S) (hS : SI S) {key : Nat} (hk : key < 100) : Ev 34 [.inr (.inr (3, 0)), rB 0, .inl (nI key)] σ (fun r σ' => σ' = σ ∧ ((skS S key ∧ r = some (.inl 1)) ∨ (¬ skS S key ∧ r = some (.inl 0)))) := by
  have hg := hC.2.2.2.2.1
  have hgs := hS.2.2.2.2
  have loop : ∀ (n i : Nat) (x3 : Int32) (l4 l5 : Option PV), i + n = S.2.2.2.2.1.1 → x3 = nI i → (∀ y, y < i → skI S key y) → RR 34 2 [some (.inr (.inr (3, 0))), some (rB 0), some (.inl (nI key)), some (.inl x3), l4, l5] [] σ (fun r σ' => σ' = σ ∧ ((skS S key ∧ r = some (.inl 1)) ∨ (¬ skS S key ∧ r = some (.inl 0)))) := by
    intro n
    induction n with
    | zero =>
      intro i x3 l4 l5 hi hx hz
      refine G_if rfl (fun q => ?_) (fun q => ?_)
      · exact G_retZ rfl (Or.inr rfl) ⟨rfl, Or.inl ⟨fun y hy => hz y (by omega), rfl⟩⟩
      · rw [hx, hg.1] at q
        exact absurd (nle q (by omega) (by omega)) (by omega)
    | succ n ih =>
      intro i x3 l4 l5 hi hx hz
      obtain ⟨g1, g2, g3⟩ := hg.2 i (by omega)
      obtain ⟨b1, b2, b3⟩ := hgs.2 i (by omega)
      have hI := hC.1.at b1
      have hV := hS.1.at b1
      have hn := hV.1.1
      have bad : ∀ (l4 l5 : Option PV), ¬ skI S key i → RR 34 73 [some (.inr (.inr (3, 0))), some (rB 0), some (.inl (nI key)), some (.inl x3), l4, l5] [] σ (fun r σ' => σ' = σ ∧ ((skS S key ∧ r = some (.inl 1)) ∨ (¬ skS S key ∧ r = some (.inl 0)))) := by
        intro l4 l5 h
        exact G_retZ rfl (Or.inl rfl) ⟨rfl, Or.inr ⟨fun e => h (e i (by omega)), rfl⟩⟩
      have part : ∀ (l5 : Option PV), (has (mp S.1 (S.2.2.2.2.1.2.1 i)) key ↔ S.2.2.2.2.1.2.2.2 i = 1) → RR 34 58 [some (.inr (.inr (3, 0))), some (rB 0), some (.inl (nI key)), some (.inl x3), some (rI (2 * 0 + S.2.2.2.2.1.2.1 i)), l5] [] σ (fun r σ' => σ' = σ ∧ ((skS S key ∧ r = some (.inl 1)) ∨ (¬ skS S key ∧ r = some (.inl 0)))) := by
        intro l5 hiff
        refine G_call rfl (ev_looksFor hI hV.1 hk) ?_
        rintro r1 σ1 ⟨rfl, rfl⟩
        refine G_ald rfl i hx (by omega) (by decide) ?_
        rw [g2]
        refine G_if rfl (fun q => ?_) (fun q => ?_)
        · refine G_to [2] rfl ?_
          refine ih (i + 1) _ _ _ (by omega) (by rw [hx, nI_1]) (fun y hy => ?_)
          by_cases e : y = i
          · rw [e]
            exact ⟨hiff, q⟩
          · exact hz y (by omega)
        · exact bad _ _ (fun e => q e.2)
      refine G_if rfl (fun q => ?_) (fun q => ?_)
      · rw [hx, hg.1] at q
        exact absurd (ile q (by omega) (by omega)) (by omega)
      · refine G_ald rfl i hx (by omega) (by decide) ?_
        rw [g1]
        refine G_call rfl (ev_of 0 b1 σ) ?_
        rintro r1 σ1 ⟨rfl, rfl⟩
        refine G_call rfl (ev_indexOf hI hV.1 (key := key) (by omega)) ?_
        rintro r1 σ2 ⟨rfl, ⟨hh, rfl⟩ | ⟨hh, rfl⟩⟩
        · have hlt := hh.1
          refine G_if rfl (fun q => absurd q (nI_pos (by omega))) (fun q => ?_)
          refine G_ald rfl i hx (by omega) (by decide) ?_
          rw [g3]
          refine G_if rfl (fun q2 => ?_) (fun q2 => ?_)
          · have q2 : S.2.2.2.2.1.2.2.2 i ≠ 1 := fun e => q2 (by rw [e]; rfl)
            refine G_if rfl (fun q3 => ?_) (fun q3 => absurd (by decide) q3)
            exact bad _ _ (fun e => q2 (e.1.mp hh))
          · have q2 : S.2.2.2.2.1.2.2.2 i = 1 := ieq (b := 1) (Classical.not_not.mp q2) (by omega) (by decide)
            refine G_if rfl (fun q3 => absurd rfl q3) (fun q3 => ?_)
            exact part _ ⟨fun _ => q2, fun _ => hh⟩
        · refine G_if rfl (fun q => ?_) (fun q => absurd (by decide) q)
          refine G_ald rfl i hx (by omega) (by decide) ?_
          rw [g3]
          refine G_if rfl (fun q2 => ?_) (fun q2 => ?_)
          · have q2 : S.2.2.2.2.1.2.2.2 i ≠ 1 := fun e => q2 (by rw [e]; rfl)
            refine G_if rfl (fun q3 => absurd rfl q3) (fun q3 => ?_)
            exact part _ ⟨fun e => absurd e hh, fun e => absurd e q2⟩
          · have q2 : S.2.2.2.2.1.2.2.2 i = 1 := ieq (b := 1) (Classical.not_not.mp q2) (by omega) (by decide)
            refine G_if rfl (fun q3 => ?_) (fun q3 => absurd (by decide) q3)
            exact bad _ _ (fun e => hh (e.1.mpr q2))
  refine G_to [2] rfl ?_
  exact loop S.2.2.2.2.1.1 0 _ _ _ (by omega) nI_0.symm (fun y hy => by omega)
theorem c_keys {S : SS} (hS : SI S) (w : Int32) : CSpec 76 [.inl w] S (.inl (fKeys S w)) S := by
  intro σ hC
  unfold fKeys
  have loop : ∀ (n key c : Nat) (f x2 x4 : Int32), key + n = 100 → x2 = nI c → x4 = nI key → RR 76 20 [some rT, some (.inl w), some (.inl x2), some (.inl f), some (.inl x4)] [] σ (fun q σ' => q = some (.inl (gt (w = 0) (nI (kcF S n key c f).1) (kcF S n key c f).2)) ∧ CS σ' S ∧ mEq σ σ') := by
    intro n
    induction n with
    | zero =>
      intro key c f x2 x4 hk hx2 hx4
      refine G_if rfl (fun q => ?_) (fun q => ?_)
      · refine G_if rfl (fun q2 => ?_) (fun q2 => ?_)
        · rw [gt_f q2]
          exact G_ret rfl ⟨rfl, hC, mEq.rf _⟩
        · rw [gt_t (Classical.not_not.mp q2)]
          exact G_ret rfl ⟨by rw [hx2]; rfl, hC, mEq.rf _⟩
      · rw [hx4] at q
        have := nle (a := 100) q (by decide) (by omega)
        omega
    | succ n ih =>
      intro key c f x2 x4 hk hx2 hx4
      refine G_if rfl (fun q => ?_) (fun q => ?_)
      · rw [hx4] at q
        have := ile (a := 100) q (by decide) (by omega)
        omega
      · refine G_callv rfl (by rw [hx4]) (ev_isSo hC hS (key := key) (by omega)) ?_
        rintro r1 σ1 ⟨rfl, ⟨h1, rfl⟩ | ⟨h1, rfl⟩⟩
        · rw [show kcF S (n + 1) key c f = kcF S n (key + 1) (c + 1) (gt (f = -9) (nI key) f) from gt_t h1]
          refine G_if rfl (fun q2 => absurd q2 (by decide)) (fun q2 => ?_)
          refine G_if rfl (fun q3 => ?_) (fun q3 => ?_)
          · rw [gt_f q3]
            refine G_to [20] rfl ?_
            exact ih (key + 1) (c + 1) _ _ _ (by omega) (by rw [hx2, nI_1]) (by rw [hx4, nI_1])
          · rw [gt_t (Classical.not_not.mp q3), ← hx4]
            refine G_to [20] rfl ?_
            exact ih (key + 1) (c + 1) _ _ _ (by omega) (by rw [hx2, nI_1]) (by rw [hx4, nI_1])
        · rw [show kcF S (n + 1) key c f = kcF S n (key + 1) c f from gt_f h1]
          refine G_if rfl (fun q2 => ?_) (fun q2 => absurd rfl q2)
          refine G_to [20] rfl ?_
          exact ih (key + 1) c _ _ _ (by omega) hx2 (by rw [hx4, nI_1])
  have fin : RR 76 12 [some rT, some (.inl w), none, none, none] [] σ (fun q σ' => q = some (.inl (gt (w = 0) (nI (kcF S 100 0 0 (-9)).1) (kcF S 100 0 0 (-9)).2)) ∧ CS σ' S ∧ mEq σ σ') := by
    refine G_to [20] rfl ?_
    exact loop 100 0 0 _ _ _ rfl nI_0.symm nI_0.symm
  refine G_if rfl (fun q3 => ?_) (fun q3 => ?_)
  · have hu : okM w := Or.inl q3
    rw [gt_t hu]
    exact fin
  refine G_if rfl (fun q4 => ?_) (fun q4 => ?_)
  · have hu : okM w := Or.inr q4
    rw [gt_t hu]
    exact fin
  · rw [gt_f (fun e => e.elim q3 q4)]
    exact G_ret rfl ⟨rfl, hC, mEq.rf _⟩
theorem m_keys {S : SS} (hS : SI S) (w : Int32) : MSpec 147 [.inl w] S (.inl (fKeys S w)) S := by
  intro σ hM
  have hM0 := hM.scr (frS.th σ)
  have hc0 := (frS.th σ).c
  have hgs := hS.2.2.2.2
  unfold fKeys
  have inner : ∀ (key : Nat), key < 100 → ∀ (Q : Option PV → Hp → Prop) (c f : Int32), (∀ (σe : Hp) (x4 : Int32) (l5 : Option PV), frW σ σe → σe.1 6 0 25 = c → σe.1 6 0 26 = f → RR 147 123 [some rMo, some (.inl w), some (.inl (nI key)), some (.inl (ifI (skS S key))), some (.inl x4), l5] [] σe Q) → ∀ (n i : Nat) (σc : Hp) (x3 x4 : Int32) (l5 : Option PV), i + n = S.2.2.2.2.1.1 → x4 = nI i → x3 = ifI (∀ y, y < i → skI S key y) → frW σ σc → σc.1 6 0 25 = c → σc.1 6 0 26 = f → RR 147 42 [some rMo, some (.inl w), some (.inl (nI key)), some (.inl x3), some (.inl x4), l5] [] σc Q := by
    intro key hk Q c f hQ n
    induction n with
    | zero =>
      intro i σc x3 x4 l5 hi hx4 hx3 hf h25 h26
      have hMc := hM.w hf
      refine G_if rfl (fun q => ?_) (fun q => ?_)
      · have e : x3 = ifI (skS S key) := by
          rw [hx3]
          congr 1
          exact propext ⟨fun e y hy => e y (by omega), fun e y hy => e y (by omega)⟩
        rw [e]
        exact hQ σc _ _ hf h25 h26
      · rw [hx4, hMc.2.2.2.2.1.1] at q
        exact absurd (nle q (by omega) (by omega)) (by omega)
    | succ n ih =>
      intro i σc x3 x4 l5 hi hx4 hx3 hf h25 h26
      have hMc := hM.w hf
      obtain ⟨b1, b2, b3⟩ := hgs.2 i (by omega)
      obtain ⟨g1, g2, g3⟩ := hMc.2.2.2.2.1.2 i (by omega)
      have hI := hMc.1.at b1
      have hV := hS.1.at b1
      refine G_if rfl (fun q => ?_) (fun q => ?_)
      · rw [hx4, hMc.2.2.2.2.1.1] at q
        exact absurd (ile q (by omega) (by omega)) (by omega)
      · refine G_ald rfl i hx4 (by omega) (by decide) ?_
        rw [g1]
        refine G_callv rfl (by rw [mb121]) (ev_search_21 hI hV.1 (by omega) (key := key) (by omega)) ?_
        rintro r1 σ1 ⟨rfl, f1, h20⟩
        have hf1 : frW σ σ1 := hf.tr f1.t.w
        have e25 : σ1.1 6 0 25 = c := by rw [f1.2.1 25 (by decide), h25]
        have e26 : σ1.1 6 0 26 = f := by rw [f1.2.1 26 (by decide), h26]
        have g2' : σ1.1 27 0 i = nI (S.2.2.2.2.1.2.2.1 i) := by rw [f1.1 27 0 (by decide), g2]
        have g3' : σ1.1 28 0 i = nI (S.2.2.2.2.1.2.2.2 i) := by rw [f1.1 28 0 (by decide), g3]
        have no : ∀ l5 : Option PV, ¬ ((∀ y, y < i → skI S key y) ∧ skI S key i) → RR 147 115 [some rMo, some (.inl w), some (.inl (nI key)), some (.inl x3), some (.inl x4), l5] [] σ1 Q := by
          intro l5 h
          refine G_to [42] rfl ?_
          refine ih (i + 1) σ1 _ _ _ (by omega) (by rw [hx4, nI_1]) ?_ hf1 e25 e26
          exact (gt_f (fun e => h ⟨fun y hy => e y (by omega), e i (by omega)⟩)).symm
        by_cases hA : ∀ y, y < i → skI S key y
        · have e3 : x3 = 1 := by rw [hx3]; exact gt_t hA
          rw [e3] at no ⊢
          refine G_if rfl (fun q => absurd q (by decide)) (fun q => ?_)
          refine G_ald rfl i hx4 (by omega) (by decide) ?_
          rw [g2']
          refine G_if rfl (fun q2 => ?_) (fun q2 => ?_)
          · exact no _ (fun e => q2 e.2.2)
          · have q2 := Classical.not_not.mp q2
            refine G_ald rfl i hx4 (by omega) (by decide) ?_
            rw [g3', h20]
            have yes : ∀ l5 : Option PV, skI S key i → RR 147 42 [some rMo, some (.inl w), some (.inl (nI key)), some (.inl 1), some (.inl (x4 + 1)), l5] [] σ1 Q := by
              intro l5 h
              refine ih (i + 1) σ1 _ _ _ (by omega) (by rw [hx4, nI_1]) ?_ hf1 e25 e26
              refine (gt_t (fun y hy => ?_)).symm
              by_cases e : y = i
              · rw [e]; exact h
              · exact hA y (by omega)
            have hfd := fd_has hV.1 key
            cases hb : (looksF (mp S.1 (S.2.2.2.2.1.2.1 i)) key).1 with
            | true =>
              rw [hb] at hfd
              have hh := hfd.mp rfl
              refine G_if rfl (fun q3 => ?_) (fun q3 => ?_)
              · have q3 : S.2.2.2.2.1.2.2.2 i ≠ 1 := fun e => q3 (by rw [e]; rfl)
                refine G_if rfl (fun q4 => ?_) (fun q4 => absurd (by decide) q4)
                exact no _ (fun e => q3 (e.2.1.mp hh))
              · have q3 : S.2.2.2.2.1.2.2.2 i = 1 := ieq (b := 1) (Classical.not_not.mp q3) (by omega) (by decide)
                refine G_if rfl (fun q4 => absurd rfl q4) (fun q4 => ?_)
                refine G_to [42] rfl ?_
                exact yes _ ⟨⟨fun _ => q3, fun _ => hh⟩, q2⟩
            | false =>
              rw [hb] at hfd
              have hh : ¬ has (mp S.1 (S.2.2.2.2.1.2.1 i)) key := fun e => by cases hfd.mpr e
              refine G_if rfl (fun q3 => ?_) (fun q3 => ?_)
              · have q3 : S.2.2.2.2.1.2.2.2 i ≠ 1 := fun e => q3 (by rw [e]; rfl)
                refine G_if rfl (fun q4 => absurd rfl q4) (fun q4 => ?_)
                refine G_to [42] rfl ?_
                exact yes _ ⟨⟨fun e => absurd e hh, fun e => absurd e q3⟩, q2⟩
              · have q3 : S.2.2.2.2.1.2.2.2 i = 1 := ieq (b := 1) (Classical.not_not.mp q3) (by omega) (by decide)
                refine G_if rfl (fun q4 => ?_) (fun q4 => absurd (by decide) q4)
                exact no _ (fun e => hh (e.2.1.mpr q3))
        · have e3 : x3 = 0 := by rw [hx3]; exact gt_f hA
          rw [e3] at no ⊢
          refine G_if rfl (fun q => ?_) (fun q => absurd rfl q)
          exact no _ (fun e => hA e.1)
  have outer : ∀ (n key c : Nat) (f x2 : Int32) (σc : Hp) (l3 l4 l5 : Option PV), key + n = 100 → x2 = nI key → frW σ σc → σc.1 6 0 25 = nI c → σc.1 6 0 26 = f → c ≤ key → (c = 0 ↔ f = -9) → RR 147 31 [some rMo, some (.inl w), some (.inl x2), l3, l4, l5] [] σc (fun q σ' => q = some (.inl (gt (w = 0) (nI (kcF S n key c f).1) (kcF S n key c f).2)) ∧ MS σ' S ∧ cEq σ σ') := by
    intro n
    induction n with
    | zero =>
      intro key c f x2 σc l3 l4 l5 hk hx2 hf h25 h26 hc hcf
      refine G_if rfl (fun q => ?_) (fun q => ?_)
      · refine G_if rfl (fun q2 => ?_) (fun q2 => ?_)
        · rw [gt_f q2]
          exact G_ret rfl ⟨by rw [h26]; rfl, hM.w hf, hf.c⟩
        · rw [gt_t (Classical.not_not.mp q2)]
          exact G_ret rfl ⟨by rw [h25]; rfl, hM.w hf, hf.c⟩
      · rw [hx2] at q
        have := nle (a := 100) q (by decide) (by omega)
        omega
    | succ n ih =>
      intro key c f x2 σc l3 l4 l5 hk hx2 hf h25 h26 hc hcf
      refine G_if rfl (fun q => ?_) (fun q => ?_)
      · rw [hx2] at q
        have := ile (a := 100) q (by decide) (by omega)
        omega
      · refine G_to [42] rfl ?_
        rw [hx2]
        refine inner key (by omega) _ (nI c) f ?_ S.2.2.2.2.1.1 0 σc _ _ _ (by omega) nI_0.symm (gt_t (fun y hy => by omega)).symm hf h25 h26
        intro σe x4 l5 he e25 e26
        by_cases hs : skS S key
        · rw [show ifI (skS S key) = 1 from gt_t hs, show kcF S (n + 1) key c f = kcF S n (key + 1) (c + 1) (gt (f = -9) (nI key) f) from gt_t hs]
          refine G_if rfl (fun q2 => absurd q2 (by decide)) (fun q2 => ?_)
          have last : ∀ f' : Int32, f' ≠ -9 → RR 147 146 [some rMo, some (.inl w), some (.inl (nI key)), some (.inl 1), some (.inl x4), l5] [] (hset σe.1 6 0 26 f', σe.2) (fun q σ' => q = some (.inl (gt (w = 0) (nI (kcF S n (key + 1) (c + 1) f').1) (kcF S n (key + 1) (c + 1) f').2)) ∧ MS σ' S ∧ cEq σ σ') := by
            intro f' hf'
            refine G_if rfl (fun q3 => absurd q3 (by decide)) (fun q3 => ?_)
            refine G_to [31] rfl ?_
            refine ih (key + 1) (c + 1) f' _ _ _ _ _ (by omega) (by rw [nI_1]) ((he.x (by decide)).x (by decide)) ?_ rfl (by omega) ⟨fun e => by omega, fun e => absurd e hf'⟩
            show σe.1 6 0 25 + 1 = _
            rw [e25, nI_1]
          refine G_if rfl (fun q3 => ?_) (fun q3 => ?_)
          · have hc0 : c ≠ 0 := fun e => q3 (by rw [e25, e]; rfl)
            have hf9 : f ≠ -9 := fun e => hc0 (hcf.mpr e)
            rw [gt_f hf9]
            refine G_to [146] rfl ?_
            rw [e26]
            exact last f hf9
          · have q3 := Classical.not_not.mp q3
            rw [e25] at q3
            have hc0 : c = 0 := ieq (b := 0) q3 (by omega) (by decide)
            rw [gt_t (hcf.mp hc0)]
            refine G_to [146] rfl ?_
            exact last (nI key) (no9 (by omega))
        · rw [show ifI (skS S key) = 0 from gt_f hs, show kcF S (n + 1) key c f = kcF S n (key + 1) c f from gt_f hs]
          refine G_if rfl (fun q2 => ?_) (fun q2 => absurd rfl q2)
          refine G_if rfl (fun q2 => ?_) (fun q2 => absurd rfl q2)
          refine G_to [31] rfl ?_
          refine ih (key + 1) c f _ _ _ _ _ (by omega) (by rw [nI_1]) ((he.x (by decide)).x (by decide)) ?_ e26 (by omega) hcf
          show σe.1 6 0 25 + 0 = _
          rw [e25, show (0 : Int32) = nI 0 from rfl, nI_add]
          rfl
  refine G_call rfl (ev_inI w 0 1 _) ?_
  rintro r1 σ5 ⟨rfl, ⟨g1, rfl⟩ | ⟨g1, rfl⟩⟩
  · have hu : okM w := i01'.mp g1
    rw [gt_t hu]
    refine G_if rfl (fun q3 => ?_) (fun q3 => absurd (by decide) q3)
    refine G_to [31] rfl ?_
    exact outer 100 0 0 _ _ _ _ _ _ rfl nI_0.symm ((((frS.th σ).t.w).x (by decide)).x (by decide)) rfl rfl (by decide) ⟨fun _ => rfl, fun _ => rfl⟩
  · have hu : ¬ okM w := fun e => g1 (i01'.mpr e)
    rw [gt_f hu]
    refine G_if rfl (fun q3 => absurd rfl q3) (fun q3 => ?_)
    exact G_ret rfl ⟨rfl, hM0, hc0⟩
