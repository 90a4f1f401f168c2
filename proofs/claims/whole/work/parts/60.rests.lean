/-! rests. Laid by wip/whole/mk60.py. -/
noncomputable def stM1 (M : AM) (a p : Nat) : AM := gt (2 ≤ p) (plM M a 0) M
noncomputable def stM (M : AM) (a b p : Nat) : AM := gt (p % 2 = 1) (plM (stM1 M a p) b 0) (stM1 M a p)
theorem Inv.st1 {M : AM} (h : Inv M) {a : Nat} (ha : a < 100) (p : Nat) : Inv (stM1 M a p) := by
  unfold stM1
  by_cases h1 : 2 ≤ p
  · rw [gt_t h1]; exact h.pl ha (by decide)
  · rw [gt_f h1]; exact h
theorem Inv.st {M : AM} (h : Inv M) {a b : Nat} (ha : a < 100) (hb : b < 100) (p : Nat) : Inv (stM M a b p) := by
  unfold stM
  by_cases h1 : p % 2 = 1
  · rw [gt_t h1]; exact (h.st1 ha p).pl hb (by decide)
  · rw [gt_f h1]; exact h.st1 ha p
noncomputable def gnF (M : AM) (a b p w : Nat) : Int32 := gt (p / w % 2 = 1) (10 - nI (looksF (stM M a b p) (if w = 2 then a else b)).2) 4
def atR (M : AM) (a b p : Nat) : Prop := gnF M a b (p ^^^ 2) 2 ≤ gnF M a b p 2 ∧ gnF M a b (p ^^^ 1) 1 ≤ gnF M a b p 1
noncomputable def rsF (M : AM) (a b : Nat) : Nat → Nat → Nat → Int32 → Nat × Int32
  | 0, _, c, f => (c, f)
  | n + 1, p, c, f => gt (atR M a b p) (rsF M a b n (p + 1) (c + 1) (gt (f = -9) (nI (p / 2 * 10 + p % 2)) f)) (rsF M a b n (p + 1) c f)
noncomputable def fRestsN (M : AM) (a b : Nat) (w : Int32) : Int32 := gt (has M a ∨ has M b) (-3) (gt (M.1 ≤ 38) (gt (w = 0) (nI (rsF M a b 4 0 0 (-9)).1) (rsF M a b 4 0 0 (-9)).2) (-4))
noncomputable def fRests (S : SS) (x a b w : Int32) : Int32 := gt (okM x ∧ okK a ∧ okK b) (gt (a ≠ b ∧ okM w) (fRestsN (mp S.1 x.toNatClampNeg) a.toNatClampNeg b.toNatClampNeg w) (-2)) (-1)
theorem and2 {p : Nat} (hp : p < 4) : nI p &&& 2 = 0 ↔ ¬ 2 ≤ p := by
  match p, hp with
  | 0, _ => decide
  | 1, _ => decide
  | 2, _ => decide
  | 3, _ => decide
theorem and1 {p : Nat} (hp : p < 4) : nI p &&& 1 = 0 ↔ ¬ p % 2 = 1 := by
  match p, hp with
  | 0, _ => decide
  | 1, _ => decide
  | 2, _ => decide
  | 3, _ => decide
theorem xor2 {p : Nat} (hp : p < 4) : nI p ^^^ 2 = nI (p ^^^ 2) ∧ p ^^^ 2 < 4 := by
  match p, hp with
  | 0, _ => decide
  | 1, _ => decide
  | 2, _ => decide
  | 3, _ => decide
theorem xor1 {p : Nat} (hp : p < 4) : nI p ^^^ 1 = nI (p ^^^ 1) ∧ p ^^^ 1 < 4 := by
  match p, hp with
  | 0, _ => decide
  | 1, _ => decide
  | 2, _ => decide
  | 3, _ => decide
theorem div22 {p : Nat} (hp : p < 4) : p / 2 % 2 = 1 ↔ 2 ≤ p := by omega
theorem div11 {p : Nat} : p / 1 % 2 = 1 ↔ p % 2 = 1 := by rw [Nat.div_one]
theorem pr10 {p : Nat} (hp : p < 4) : nI p / 2 * 10 + jrem (nI p) 2 = nI (p / 2 * 10 + p % 2) ∧ 10 * (nI p / 2) + jrem (nI p) 2 = nI (p / 2 * 10 + p % 2) := by
  match p, hp with
  | 0, _ => decide
  | 1, _ => decide
  | 2, _ => decide
  | 3, _ => decide
theorem ev_gain_2 {σ : Hp} {S : SS} (hC : CS σ S) (hS : SI S) {m : Nat} (hm : m < 2) {a b p : Nat} (ha : a < 100) (hb : b < 100) (hp : p < 4) : Ev 79 [rT, .inl (nI m), .inl (nI a), .inl (nI b), .inl (nI p), .inl 2] σ (fun r σ' => r = some (.inl (gnF (mp S.1 m) a b p 2)) ∧ frI (2 * 1 + m) σ σ') := by
  have hV := hS.1.at hm
  have hV1 := hV.st1 ha p
  have hV2 := hV.st ha hb p
  unfold gnF
  refine G_if rfl (fun q => ?_) (fun q => ?_)
  · have h : p / 2 % 2 = 1 := Classical.byContradiction (fun e => q ((and2 hp).mpr (fun e2 => e ((div22 hp).mpr e2))))
    rw [gt_t h]
    refine G_call rfl (ev_tryOn hC hS hm) ?_
    rintro r1 σ1 ⟨rfl, i1, f1⟩
    have last : ∀ σ3, isI σ3 (2 * 1 + m) (stM (mp S.1 m) a b p) → frI (2 * 1 + m) σ σ3 → RR 79 47 [some rT, some (.inl (nI m)), some (.inl (nI a)), some (.inl (nI b)), some (.inl (nI p)), some (.inl 2), some (rI (2 * 1 + m))] [] σ3 (fun r σ' => r = some (.inl (10 - nI (looksF (stM (mp S.1 m) a b p) (if 2 = 2 then a else b)).2)) ∧ frI (2 * 1 + m) σ σ') := by
      intro σ3 i3 f3
      refine G_if rfl (fun q => ?_) (fun q => ?_)
      · exact absurd rfl q
      · refine G_call rfl (ev_looksFor i3 hV2.1 ha) ?_
        rintro r1 σ4 ⟨rfl, rfl⟩
        exact G_ret rfl ⟨rfl, f3⟩
    have mid : ∀ σ2, isI σ2 (2 * 1 + m) (stM1 (mp S.1 m) a p) → frI (2 * 1 + m) σ σ2 → RR 79 32 [some rT, some (.inl (nI m)), some (.inl (nI a)), some (.inl (nI b)), some (.inl (nI p)), some (.inl 2), some (rI (2 * 1 + m))] [] σ2 (fun r σ' => r = some (.inl (10 - nI (looksF (stM (mp S.1 m) a b p) (if 2 = 2 then a else b)).2)) ∧ frI (2 * 1 + m) σ σ') := by
      intro σ2 i2 f2
      refine G_if rfl (fun q => ?_) (fun q => ?_)
      · refine last σ2 ?_ f2
        unfold stM
        rw [gt_f ((and1 hp).mp q)]
        exact i2
      · refine G_callv rfl (by rw [show (0 : Int32) = nI 0 from rfl]) (ev_pl i2 hV1 hb (v := 0) (by decide)) ?_
        rintro r1 σ3 ⟨rfl, i3, f3⟩
        refine G_to [47] rfl ?_
        refine last σ3 ?_ (f2.tr f3)
        unfold stM
        rw [gt_t (Classical.byContradiction (fun e => q ((and1 hp).mpr e)))]
        exact i3
    refine G_if rfl (fun q => ?_) (fun q => ?_)
    · refine mid σ1 ?_ f1
      unfold stM1
      rw [gt_f ((and2 hp).mp q)]
      exact i1
    · refine G_callv rfl (by rw [show (0 : Int32) = nI 0 from rfl]) (ev_pl i1 hV ha (v := 0) (by decide)) ?_
      rintro r1 σ3 ⟨rfl, i3, f3⟩
      refine G_to [32] rfl ?_
      refine mid σ3 ?_ (f1.tr f3)
      unfold stM1
      rw [gt_t (Classical.byContradiction (fun e => q ((and2 hp).mpr e)))]
      exact i3
  · have h : ¬ p / 2 % 2 = 1 := fun e => (and2 hp).mp (Classical.not_not.mp q) ((div22 hp).mp e)
    rw [gt_f h]
    exact G_ret rfl ⟨rfl, frI.rf _ _⟩
theorem ev_gain_1 {σ : Hp} {S : SS} (hC : CS σ S) (hS : SI S) {m : Nat} (hm : m < 2) {a b p : Nat} (ha : a < 100) (hb : b < 100) (hp : p < 4) : Ev 79 [rT, .inl (nI m), .inl (nI a), .inl (nI b), .inl (nI p), .inl 1] σ (fun r σ' => r = some (.inl (gnF (mp S.1 m) a b p 1)) ∧ frI (2 * 1 + m) σ σ') := by
  have hV := hS.1.at hm
  have hV1 := hV.st1 ha p
  have hV2 := hV.st ha hb p
  unfold gnF
  refine G_if rfl (fun q => ?_) (fun q => ?_)
  · have h : p / 1 % 2 = 1 := Classical.byContradiction (fun e => q ((and1 hp).mpr (fun e2 => e ((div11).mpr e2))))
    rw [gt_t h]
    refine G_call rfl (ev_tryOn hC hS hm) ?_
    rintro r1 σ1 ⟨rfl, i1, f1⟩
    have last : ∀ σ3, isI σ3 (2 * 1 + m) (stM (mp S.1 m) a b p) → frI (2 * 1 + m) σ σ3 → RR 79 47 [some rT, some (.inl (nI m)), some (.inl (nI a)), some (.inl (nI b)), some (.inl (nI p)), some (.inl 1), some (rI (2 * 1 + m))] [] σ3 (fun r σ' => r = some (.inl (10 - nI (looksF (stM (mp S.1 m) a b p) (if 1 = 2 then a else b)).2)) ∧ frI (2 * 1 + m) σ σ') := by
      intro σ3 i3 f3
      refine G_if rfl (fun q => ?_) (fun q => ?_)
      · refine G_call rfl (ev_looksFor i3 hV2.1 hb) ?_
        rintro r1 σ4 ⟨rfl, rfl⟩
        exact G_ret rfl ⟨rfl, f3⟩
      · exact absurd (by decide) q
    have mid : ∀ σ2, isI σ2 (2 * 1 + m) (stM1 (mp S.1 m) a p) → frI (2 * 1 + m) σ σ2 → RR 79 32 [some rT, some (.inl (nI m)), some (.inl (nI a)), some (.inl (nI b)), some (.inl (nI p)), some (.inl 1), some (rI (2 * 1 + m))] [] σ2 (fun r σ' => r = some (.inl (10 - nI (looksF (stM (mp S.1 m) a b p) (if 1 = 2 then a else b)).2)) ∧ frI (2 * 1 + m) σ σ') := by
      intro σ2 i2 f2
      refine G_if rfl (fun q => ?_) (fun q => ?_)
      · refine last σ2 ?_ f2
        unfold stM
        rw [gt_f ((and1 hp).mp q)]
        exact i2
      · refine G_callv rfl (by rw [show (0 : Int32) = nI 0 from rfl]) (ev_pl i2 hV1 hb (v := 0) (by decide)) ?_
        rintro r1 σ3 ⟨rfl, i3, f3⟩
        refine G_to [47] rfl ?_
        refine last σ3 ?_ (f2.tr f3)
        unfold stM
        rw [gt_t (Classical.byContradiction (fun e => q ((and1 hp).mpr e)))]
        exact i3
    refine G_if rfl (fun q => ?_) (fun q => ?_)
    · refine mid σ1 ?_ f1
      unfold stM1
      rw [gt_f ((and2 hp).mp q)]
      exact i1
    · refine G_callv rfl (by rw [show (0 : Int32) = nI 0 from rfl]) (ev_pl i1 hV ha (v := 0) (by decide)) ?_
      rintro r1 σ3 ⟨rfl, i3, f3⟩
      refine G_to [32] rfl ?_
      refine mid σ3 ?_ (f1.tr f3)
      unfold stM1
      rw [gt_t (Classical.byContradiction (fun e => q ((and2 hp).mpr e)))]
      exact i3
  · have h : ¬ p / 1 % 2 = 1 := fun e => (and1 hp).mp (Classical.not_not.mp q) ((div11).mp e)
    rw [gt_f h]
    exact G_ret rfl ⟨rfl, frI.rf _ _⟩
theorem ev_isAtRest {σ : Hp} {S : SS} (hC : CS σ S) (hS : SI S) {m : Nat} (hm : m < 2) {a b p : Nat} (ha : a < 100) (hb : b < 100) (hp : p < 4) : Ev 78 [rT, .inl (nI m), .inl (nI a), .inl (nI b), .inl (nI p)] σ (fun r σ' => r = some (.inl (ifI (atR (mp S.1 m) a b p))) ∧ frI (2 * 1 + m) σ σ') := by
  refine G_call rfl (ev_gain_2 hC hS hm ha hb hp) ?_
  rintro r1 σ1 ⟨rfl, f1⟩
  refine G_callv rfl (by rw [(xor2 hp).1]) (ev_gain_2 (hC.tr f1 hm) hS hm ha hb (xor2 hp).2) ?_
  rintro r1 σ2 ⟨rfl, f2⟩
  have f2 := f1.tr f2
  refine G_if rfl (fun q => ?_) (fun q => ?_)
  · rw [show ifI (atR (mp S.1 m) a b p) = 0 from gt_f (fun e => absurd q (Int32.not_lt.mpr e.1))]
    exact G_retZ rfl (Or.inl rfl) ⟨rfl, f2⟩
  · refine G_call rfl (ev_gain_1 (hC.tr f2 hm) hS hm ha hb hp) ?_
    rintro r1 σ3 ⟨rfl, f3⟩
    have f3 := f2.tr f3
    refine G_callv rfl (by rw [(xor1 hp).1]) (ev_gain_1 (hC.tr f3 hm) hS hm ha hb (xor1 hp).2) ?_
    rintro r1 σ4 ⟨rfl, f4⟩
    have f4 := f3.tr f4
    refine G_if rfl (fun q2 => ?_) (fun q2 => ?_)
    · rw [show ifI (atR (mp S.1 m) a b p) = 0 from gt_f (fun e => absurd q2 (Int32.not_lt.mpr e.2))]
      exact G_retZ rfl (Or.inl rfl) ⟨rfl, f4⟩
    · rw [show ifI (atR (mp S.1 m) a b p) = 1 from gt_t ⟨Int32.not_lt.mp q, Int32.not_lt.mp q2⟩]
      exact G_retZ rfl (Or.inr rfl) ⟨rfl, f4⟩
theorem c_rests {S : SS} (hS : SI S) (x a b w : Int32) : CSpec 77 [.inl x, .inl a, .inl b, .inl w] S (.inl (fRests S x a b w)) S := by
  intro σ hC
  unfold fRests
  refine G_call rfl (ev_isMap x _) ?_
  rintro r1 σ1 ⟨rfl, ⟨h1, rfl⟩ | ⟨h1, rfl⟩⟩
  · refine G_if rfl (fun q => ?_) (fun q => ?_)
    · exact absurd q (by decide)
    · refine G_call rfl (ev_isKey a _) ?_
      rintro r1 σ2 ⟨rfl, ⟨h2, rfl⟩ | ⟨h2, rfl⟩⟩
      · refine G_if rfl (fun q => ?_) (fun q => ?_)
        · exact absurd q (by decide)
        · refine G_call rfl (ev_isKey b _) ?_
          rintro r1 σ3 ⟨rfl, ⟨h3, rfl⟩ | ⟨h3, rfl⟩⟩
          · refine G_if rfl (fun q => ?_) (fun q => ?_)
            · have hg : okM x ∧ okK a ∧ okK b := ⟨h1, h2, h3⟩
              rw [gt_t hg]
              have bad : ¬ (a ≠ b ∧ okM w) → RR 77 39 [some rT, some (.inl x), some (.inl a), some (.inl b), some (.inl w), none, none, none, none] [] σ3 (fun q σ' => q = some (.inl (gt (a ≠ b ∧ okM w) (fRestsN (mp S.1 x.toNatClampNeg) a.toNatClampNeg b.toNatClampNeg w) (-2))) ∧ CS σ' S ∧ mEq σ3 σ') := by
                intro h
                rw [gt_f h]
                exact G_ret rfl ⟨rfl, hC, mEq.rf _⟩
              refine G_if rfl (fun q1 => ?_) (fun q1 => ?_)
              · exact bad (fun e => e.1 q1)
              refine G_if rfl (fun q2 => ?_) (fun q2 => ?_)
              · exact bad (fun e => absurd q2 (Int32.not_lt.mpr (i01'.mpr e.2).1))
              refine G_if rfl (fun q3 => ?_) (fun q3 => ?_)
              · have hgw : a ≠ b ∧ okM w := ⟨q1, i01'.mp ⟨Int32.not_lt.mp q2, q3⟩⟩
                rw [gt_t hgw]
                obtain ⟨m, hm, rfl⟩ := okM_nat h1
                obtain ⟨ka, hka, rfl⟩ := h2
                obtain ⟨kb, hkb, rfl⟩ := h3
                rw [nI_clamp (by omega), nI_clamp (by omega), nI_clamp (by omega)]
                unfold fRestsN
                have hI := hC.1.at hm
                have hV := hS.1.at hm
                have hn := hV.1.1
                have loop : ∀ (n p c : Nat) (f x6 x8 : Int32) (σc : Hp), p + n = 4 → x6 = nI c → x8 = nI p → CS σc S → mEq σ3 σc → RR 77 96 [some rT, some (.inl (nI m)), some (.inl (nI ka)), some (.inl (nI kb)), some (.inl w), some (rI (2 * 0 + m)), some (.inl x6), some (.inl f), some (.inl x8)] [] σc (fun q σ' => q = some (.inl (gt (w = 0) (nI (rsF (mp S.1 m) ka kb n p c f).1) (rsF (mp S.1 m) ka kb n p c f).2)) ∧ CS σ' S ∧ mEq σ3 σ') := by
                  intro n
                  induction n with
                  | zero =>
                    intro p c f x6 x8 σc hp hx6 hx8 hCc hmc
                    refine G_if rfl (fun q => ?_) (fun q => ?_)
                    · refine G_if rfl (fun q2 => ?_) (fun q2 => ?_)
                      · rw [gt_f q2]
                        exact G_ret rfl ⟨rfl, hCc, hmc⟩
                      · rw [gt_t (Classical.not_not.mp q2)]
                        exact G_ret rfl ⟨by rw [hx6]; rfl, hCc, hmc⟩
                    · rw [hx8] at q
                      have := nle (a := 4) q (by decide) (by omega)
                      omega
                  | succ n ih =>
                    intro p c f x6 x8 σc hp hx6 hx8 hCc hmc
                    refine G_if rfl (fun q => ?_) (fun q => ?_)
                    · rw [hx8] at q
                      have := ile (a := 4) q (by decide) (by omega)
                      omega
                    · refine G_callv rfl (by rw [hx8]) (ev_isAtRest hCc hS hm hka hkb (p := p) (by omega)) ?_
                      rintro r1 σ7 ⟨rfl, f7⟩
                      have hC7 := hCc.tr f7 hm
                      have hm7 := hmc.tr f7.m
                      by_cases hA : atR (mp S.1 m) ka kb p
                      · rw [show ifI (atR (mp S.1 m) ka kb p) = 1 from gt_t hA, show rsF (mp S.1 m) ka kb (n + 1) p c f = rsF (mp S.1 m) ka kb n (p + 1) (c + 1) (gt (f = -9) (nI (p / 2 * 10 + p % 2)) f) from gt_t hA]
                        refine G_if rfl (fun q2 => absurd q2 (by decide)) (fun q2 => ?_)
                        refine G_if rfl (fun q3 => ?_) (fun q3 => ?_)
                        · rw [gt_f q3]
                          refine G_to [96] rfl ?_
                          exact ih (p + 1) (c + 1) _ _ _ _ (by omega) (by rw [hx6, nI_1]) (by rw [hx8, nI_1]) hC7 hm7
                        · rw [gt_t (Classical.not_not.mp q3)]
                          refine G_div rfl (by decide) ?_
                          refine G_div rfl (by decide) ?_
                          refine G_to [96] rfl ?_
                          rw [← (pr10 (p := p) (by omega)).1, ← hx8]
                          exact ih (p + 1) (c + 1) _ _ _ _ (by omega) (by rw [hx6, nI_1]) (by rw [hx8, nI_1]) hC7 hm7
                      · rw [show ifI (atR (mp S.1 m) ka kb p) = 0 from gt_f hA, show rsF (mp S.1 m) ka kb (n + 1) p c f = rsF (mp S.1 m) ka kb n (p + 1) c f from gt_f hA]
                        refine G_if rfl (fun q2 => ?_) (fun q2 => absurd rfl q2)
                        refine G_to [96] rfl ?_
                        exact ih (p + 1) c _ _ _ _ (by omega) hx6 (by rw [hx8, nI_1]) hC7 hm7
                refine G_call rfl (ev_of 0 hm σ3) ?_
                rintro r1 σ4 ⟨rfl, rfl⟩
                have late : has (mp S.1 m) ka ∨ has (mp S.1 m) kb → RR 77 70 [some rT, some (.inl (nI m)), some (.inl (nI ka)), some (.inl (nI kb)), some (.inl w), some (rI (2 * 0 + m)), none, none, none] [] σ4 (fun q σ' => q = some (.inl (gt (has (mp S.1 m) ka ∨ has (mp S.1 m) kb) (-3) (gt ((mp S.1 m).1 ≤ 38) (gt (w = 0) (nI (rsF (mp S.1 m) ka kb 4 0 0 (-9)).1) (rsF (mp S.1 m) ka kb 4 0 0 (-9)).2) (-4)))) ∧ CS σ' S ∧ mEq σ4 σ') := by
                  intro h
                  rw [gt_t h]
                  exact G_ret rfl ⟨rfl, hC, mEq.rf _⟩
                refine G_call rfl (ev_indexOf hI hV.1 (key := ka) (by omega)) ?_
                rintro r1 σ5 ⟨rfl, ⟨ha, rfl⟩ | ⟨ha, rfl⟩⟩
                · have hlt := ha.1
                  refine G_if rfl (fun q => ?_) (fun q => absurd (nI_pos' (by omega)) q)
                  exact late (Or.inl ha)
                refine G_if rfl (fun q => absurd q (by decide)) (fun q => ?_)
                refine G_call rfl (ev_indexOf hI hV.1 (key := kb) (by omega)) ?_
                rintro r1 σ6 ⟨rfl, ⟨hb, rfl⟩ | ⟨hb, rfl⟩⟩
                · have hlt := hb.1
                  refine G_if rfl (fun q => absurd q (nI_pos (by omega))) (fun q => ?_)
                  exact late (Or.inr hb)
                refine G_if rfl (fun q => ?_) (fun q => absurd (by decide) q)
                rw [gt_f (fun e => e.elim ha hb)]
                refine G_if rfl (fun q => ?_) (fun q => ?_)
                · rw [hI.1] at q
                  have q := ile (b := 38) q (by omega) (by decide)
                  rw [gt_t q]
                  refine G_to [96] rfl ?_
                  exact loop 4 0 0 _ _ _ _ rfl nI_0.symm nI_0.symm hC (mEq.rf _)
                · rw [hI.1] at q
                  have q := nle (b := 38) q (by omega) (by decide)
                  rw [gt_f (by omega)]
                  exact G_ret rfl ⟨rfl, hC, mEq.rf _⟩
              · exact bad (fun e => absurd (i01'.mpr e.2).2 q3)
            · exact absurd (by decide) q
          · refine G_if rfl (fun q => ?_) (fun q => ?_)
            · exact absurd rfl q
            · have hg : ¬ (okM x ∧ okK a ∧ okK b) := fun q => h3 q.2.2
              rw [gt_f hg]
              exact G_ret rfl ⟨rfl, hC, mEq.rf _⟩
      · refine G_if rfl (fun q => ?_) (fun q => ?_)
        · have hg : ¬ (okM x ∧ okK a ∧ okK b) := fun q => h2 q.2.1
          rw [gt_f hg]
          exact G_ret rfl ⟨rfl, hC, mEq.rf _⟩
        · exact absurd rfl q
  · refine G_if rfl (fun q => ?_) (fun q => ?_)
    · have hg : ¬ (okM x ∧ okK a ∧ okK b) := fun q => h1 q.1
      rw [gt_f hg]
      exact G_ret rfl ⟨rfl, hC, mEq.rf _⟩
    · exact absurd rfl q
theorem has_place {M : AM} (hV : Inv M) {key v k' : Nat} (hk : key < 100) (hv : v < 1000000) (h1 : ¬ has M key) (hn : M.1 < 40) (hne : key ≠ k') (h : ¬ has M k') : ¬ has (placeM M key v) k' := by
  have hp := hV.pl hk hv
  unfold plM at hp
  rw [gt_f h1, gt_t hn] at hp
  intro e
  obtain ⟨i, hi, e⟩ := (has_iff hp.1).mp e
  have e : insF M.2.1 (les M key) key i = k' := e
  have hi : i < M.1 + 1 := hi
  have hl := les_le M key
  unfold insF at e
  split at e
  · exact h ((has_iff hV.1).mpr ⟨i, by omega, e⟩)
  · split at e
    · exact hne e
    · exact h ((has_iff hV.1).mpr ⟨i - 1, by omega, e⟩)
theorem ev_mgain {σ : Hp} {mb : Nat} {M : AM} (hI : isP σ 22 mb M) (hw : wfM M) (hm : mb + 121 ≤ 242) {key : Nat} (hk : key < 100) (c : Int32) : Ev 150 [rMo, .inl (nI mb), .inl (nI key), .inl c] σ (fun r σ' => r = some (.inl (gt (c = 1) (10 - nI (looksF M key).2) 4)) ∧ frS σ σ') := by
  refine G_if rfl (fun q => ?_) (fun q => ?_)
  · rw [gt_f q]
    exact G_ret rfl ⟨rfl, frS.rf _⟩
  · rw [gt_t (Classical.not_not.mp q)]
    refine G_call rfl (ev_search_22 hI hw hm (key := key) (by omega)) ?_
    rintro r1 σ1 ⟨rfl, f1, h20⟩
    exact G_ret rfl ⟨rfl, f1⟩
theorem ch2 {p : Nat} (hp : p < 4) : nI p / 2 = 1 ↔ p / 2 % 2 = 1 := by
  match p, hp with
  | 0, _ => decide
  | 1, _ => decide
  | 2, _ => decide
  | 3, _ => decide
theorem ch1 {p : Nat} (hp : p < 4) : jrem (nI p) 2 = 1 ↔ p / 1 % 2 = 1 := by
  match p, hp with
  | 0, _ => decide
  | 1, _ => decide
  | 2, _ => decide
  | 3, _ => decide
theorem gt_cg {α : Type} {P Q : Prop} (h : P ↔ Q) (a b : α) : gt P a b = gt Q a b := by rw [propext h]
def gnI (σ : Hp) (M : AM) (a b k : Nat) : Prop := ∀ j, j < k → σ.1 29 0 (2 * j) = gnF M a b j 2 ∧ σ.1 29 0 (2 * j + 1) = gnF M a b j 1
theorem ev_layGains {σ : Hp} {S : SS} (hM : MS σ S) (hS : SI S) {m : Nat} (hm : m < 2) {a b : Nat} (ha : a < 100) (hb : b < 100) (hab : a ≠ b) (hna : ¬ has (mp S.1 m) a) (hnb : ¬ has (mp S.1 m) b) (hn : (mp S.1 m).1 ≤ 38) : Ev 149 [rMo, .inl (nI (0 + 121 * m)), .inl (nI a), .inl (nI b)] σ (fun r σ' => r = none ∧ frW σ σ' ∧ gnI σ' (mp S.1 m) a b 4) := by
  have hV := hS.1.at hm
  have loop : ∀ (n p : Nat) (x4 : Int32) (σc : Hp), p + n = 4 → x4 = nI p → frW σ σc → gnI σc (mp S.1 m) a b p → RR 149 3 [some rMo, some (.inl (nI (0 + 121 * m))), some (.inl (nI a)), some (.inl (nI b)), some (.inl x4)] [] σc (fun r σ' => r = none ∧ frW σ σ' ∧ gnI σ' (mp S.1 m) a b 4) := by
    intro n
    induction n with
    | zero =>
      intro p x4 σc hp hx4 hf hg
      refine G_if rfl (fun q => ?_) (fun q => ?_)
      · have e : p = 4 := by omega
        rw [e] at hg
        exact G_ret rfl ⟨rfl, hf, hg⟩
      · rw [hx4] at q
        have := nle (a := 4) q (by decide) (by omega)
        omega
    | succ n ih =>
      intro p x4 σc hp hx4 hf hg
      have hp4 : p < 4 := by omega
      have hMc := hM.w hf
      have hV1 := hV.st1 ha p
      have hV2 := hV.st ha hb p
      refine G_if rfl (fun q => ?_) (fun q => ?_)
      · rw [hx4] at q
        have := ile (a := 4) q (by decide) (by omega)
        omega
      refine G_call rfl (ev_begin hMc.1 hS.1.sz) ?_
      rintro r1 σ1 ⟨rfl, i1, f1⟩
      have last : ∀ σ3, isP σ3 22 (0 + 121 * m) (stM (mp S.1 m) a b p) → frT σc σ3 → RR 149 49 [some rMo, some (.inl (nI (0 + 121 * m))), some (.inl (nI a)), some (.inl (nI b)), some (.inl x4)] [] σ3 (fun r σ' => r = none ∧ frW σ σ' ∧ gnI σ' (mp S.1 m) a b 4) := by
        intro σ3 i3 f3
        rw [hx4]
        refine G_div rfl (by decide) ?_
        refine G_call rfl (ev_mgain i3 hV2.1 (by omega) ha _) ?_
        rintro r1 σ4 ⟨rfl, f4⟩
        have i4 := f4.is (by decide) i3
        refine G_ast rfl (2 * p) (by rw [show (2 : Int32) = nI 2 from rfl, pk_mul]) (by omega) (by decide) ?_
        refine G_div rfl (by decide) ?_
        have i4' : ∀ v : Int32, isP (hset σ4.1 29 0 (2 * p) v, σ4.2) 22 (0 + 121 * m) (stM (mp S.1 m) a b p) := fun v => i4
        refine G_call rfl (ev_mgain (i4' _) hV2.1 (by omega) hb _) ?_
        rintro r1 σ5 ⟨rfl, f5⟩
        refine G_ast rfl (2 * p + 1) (by rw [show (2 : Int32) = nI 2 from rfl, pk_mul, nI_1]) (by omega) (by decide) ?_
        refine G_to [3] rfl ?_
        refine ih (p + 1) _ _ (by omega) (by rw [nI_1]) ?_ ?_
        · exact (((hf.tr (f3.tr f4.t).w).y (by decide)).tr f5.t.w).y (by decide)
        · intro j hj
          have e5 : ∀ x, σ5.1 29 0 x = if x = 2 * p then gt (nI p / 2 = 1) (10 - nI (looksF (stM (mp S.1 m) a b p) a).2) 4 else σc.1 29 0 x := by
            intro x
            rw [f5.1 29 0 (by decide)]
            show hset σ4.1 29 0 (2 * p) _ 29 0 x = _
            by_cases hx : x = 2 * p
            · rw [hx, if_pos rfl]
              exact ix_eq0
            · rw [if_neg hx, hs_ne hx, f4.1 29 0 (by decide), f3.1 29 0 (by decide) (by decide) (by decide) (by decide)]
          by_cases hjp : j = p
          · rw [hjp]
            constructor
            · show hset σ5.1 29 0 (2 * p + 1) _ 29 0 (2 * p) = _
              rw [hs_ne (by omega), e5, if_pos rfl]
              exact gt_cg (ch2 hp4) _ _
            · show hset σ5.1 29 0 (2 * p + 1) _ 29 0 (2 * p + 1) = _
              rw [ix_eq0]
              exact gt_cg (ch1 hp4) _ _
          · have hh := hg j (by omega)
            constructor
            · show hset σ5.1 29 0 (2 * p + 1) _ 29 0 (2 * j) = _
              rw [hs_ne (by omega), e5, if_neg (by omega)]
              exact hh.1
            · show hset σ5.1 29 0 (2 * p + 1) _ 29 0 (2 * j + 1) = _
              rw [hs_ne (by omega), e5, if_neg (by omega)]
              exact hh.2
      have mid : ∀ σ2, isP σ2 22 (0 + 121 * m) (stM1 (mp S.1 m) a p) → frT σc σ2 → ¬ has (stM1 (mp S.1 m) a p) b → (stM1 (mp S.1 m) a p).1 < 40 → RR 149 30 [some rMo, some (.inl (nI (0 + 121 * m))), some (.inl (nI a)), some (.inl (nI b)), some (.inl x4)] [] σ2 (fun r σ' => r = none ∧ frW σ σ' ∧ gnI σ' (mp S.1 m) a b 4) := by
        intro σ2 i2 f2 hb2 hn2
        refine G_div rfl (by decide) ?_
        refine G_if rfl (fun q => ?_) (fun q => ?_)
        · refine last σ2 ?_ f2
          unfold stM
          rw [gt_f (fun e => q (by rw [hx4]; exact (ch1 hp4).mpr (div11.mpr e)))]
          exact i2
        · have e : p % 2 = 1 := div11.mp ((ch1 hp4).mp (by rw [← hx4]; exact Classical.not_not.mp q))
          refine G_callv rfl (by rw [show (0 : Int32) = nI 0 from rfl]) (ev_goNew_22 i2 hV1.1 hV1.low (by omega) hn2 (v := 0) hb) ?_
          rintro r1 σ3 ⟨rfl, f3, i3⟩
          refine last σ3 ?_ (f2.tr f3.t)
          unfold stM
          rw [gt_t e]
          unfold plM
          rw [gt_f hb2, gt_t hn2]
          exact i3
      refine G_if rfl (fun q => ?_) (fun q => ?_)
      · rw [hx4] at q
        have q := ile (b := 1) q (by omega) (by decide)
        have e : stM1 (mp S.1 m) a p = mp S.1 m := gt_f (by omega)
        refine mid σ1 ?_ f1 ?_ ?_
        · rw [e]; exact i1.at hm
        · rw [e]; exact hnb
        · rw [e]; omega
      · rw [hx4] at q
        have q := nle (b := 1) q (by omega) (by decide)
        have e : stM1 (mp S.1 m) a p = placeM (mp S.1 m) a 0 := by
          unfold stM1 plM
          rw [gt_t (by omega), gt_f hna, gt_t (by omega)]
        refine G_callv rfl (by rw [show (0 : Int32) = nI 0 from rfl]) (ev_goNew_22 (i1.at hm) hV.1 hV.low (by omega) (by omega) (v := 0) ha) ?_
        rintro r1 σ2 ⟨rfl, f2, i2⟩
        refine mid σ2 ?_ (f1.tr f2.t) ?_ ?_
        · rw [e]; exact i2
        · rw [e]; exact has_place hV ha (by decide) hna (by omega) hab hnb
        · rw [e]
          show (mp S.1 m).1 + 1 < 40
          omega
  refine G_to [3] rfl ?_
  exact loop 4 0 _ _ rfl nI_0.symm (frW.rf _) (fun j hj => by omega)
theorem m_rests {S : SS} (hS : SI S) (x a b w : Int32) : MSpec 148 [.inl x, .inl a, .inl b, .inl w] S (.inl (fRests S x a b w)) S := by
  intro σ hM
  unfold fRests
  have hM0 := hM.scr (frS.th σ)
  have hc0 := (frS.th σ).c
  refine G_call rfl (ev_noMap x _) ?_
  rintro r1 σ1 ⟨rfl, ⟨a1, a2, rfl⟩ | ⟨h1, rfl⟩⟩
  · have h1 : okM x := i01'.mp ⟨a1, a2⟩
    refine G_if rfl (fun q => ?_) (fun q => ?_)
    · exact absurd rfl q
    · refine G_call rfl (ev_noKey a _) ?_
      rintro r1 σ2 ⟨rfl, ⟨a1, a2, rfl⟩ | ⟨h2, rfl⟩⟩
      · have h2 : okK a := i100'.mp ⟨a1, a2⟩
        refine G_if rfl (fun q => ?_) (fun q => ?_)
        · exact absurd rfl q
        · refine G_call rfl (ev_noKey b _) ?_
          rintro r1 σ3 ⟨rfl, ⟨a1, a2, rfl⟩ | ⟨h3, rfl⟩⟩
          · have h3 : okK b := i100'.mp ⟨a1, a2⟩
            refine G_if rfl (fun q => ?_) (fun q => ?_)
            · have hg : okM x ∧ okK a ∧ okK b := ⟨h1, h2, h3⟩
              rw [gt_t hg]
              have bad : ¬ (a ≠ b ∧ okM w) → RR 148 44 [some rMo, some (.inl x), some (.inl a), some (.inl b), some (.inl w), none, none, none] [] (hset σ.1 6 0 0 0, σ.2) (fun q σ' => q = some (.inl (gt (a ≠ b ∧ okM w) (fRestsN (mp S.1 x.toNatClampNeg) a.toNatClampNeg b.toNatClampNeg w) (-2))) ∧ MS σ' S ∧ cEq σ σ') := by
                intro h
                rw [gt_f h]
                exact G_ret rfl ⟨rfl, hM0, hc0⟩
              refine G_if rfl (fun q1 => ?_) (fun q1 => ?_)
              · exact bad (fun e => e.1 q1)
              refine G_call rfl (ev_inI w 0 1 _) ?_
              rintro r1 σ5 ⟨rfl, ⟨g1, rfl⟩ | ⟨g1, rfl⟩⟩
              · have hgw : a ≠ b ∧ okM w := ⟨q1, i01'.mp g1⟩
                refine G_if rfl (fun q => ?_) (fun q => absurd (by decide) q)
                rw [gt_t hgw]
                obtain ⟨m, hm, rfl⟩ := okM_nat h1
                obtain ⟨ka, hka, rfl⟩ := h2
                obtain ⟨kb, hkb, rfl⟩ := h3
                have hab : ka ≠ kb := fun e => q1 (by rw [e])
                rw [nI_clamp (by omega), nI_clamp (by omega), nI_clamp (by omega)]
                unfold fRestsN
                have hI := hM0.1.at hm
                have hV := hS.1.at hm
                have hn := hV.1.1
                have loop : ∀ (n p c : Nat) (f x6 : Int32) (σc : Hp) (l7 : Option PV), p + n = 4 → x6 = nI p → frW σ σc → gnI σc (mp S.1 m) ka kb 4 → σc.1 6 0 27 = nI c → σc.1 6 0 28 = f → c ≤ p → (c = 0 ↔ f = -9) → RR 148 123 [some rMo, some (.inl (nI m)), some (.inl (nI ka)), some (.inl (nI kb)), some (.inl w), some (.inl (nI (0 + 121 * m))), some (.inl x6), l7] [] σc (fun q σ' => q = some (.inl (gt (w = 0) (nI (rsF (mp S.1 m) ka kb n p c f).1) (rsF (mp S.1 m) ka kb n p c f).2)) ∧ MS σ' S ∧ cEq σ σ') := by
                  intro n
                  induction n with
                  | zero =>
                    intro p c f x6 σc l7 hp hx6 hf hgn h27 h28 hc hcf
                    refine G_if rfl (fun q => ?_) (fun q => ?_)
                    · refine G_if rfl (fun q2 => ?_) (fun q2 => ?_)
                      · rw [gt_f q2]
                        exact G_ret rfl ⟨by rw [h28]; rfl, hM.w hf, hf.c⟩
                      · rw [gt_t (Classical.not_not.mp q2)]
                        exact G_ret rfl ⟨by rw [h27]; rfl, hM.w hf, hf.c⟩
                    · rw [hx6] at q
                      have := nle (a := 4) q (by decide) (by omega)
                      omega
                  | succ n ih =>
                    intro p c f x6 σc l7 hp hx6 hf hgn h27 h28 hc hcf
                    have hp4 : p < 4 := by omega
                    refine G_if rfl (fun q => ?_) (fun q => ?_)
                    · rw [hx6] at q
                      have := ile (a := 4) q (by decide) (by omega)
                      omega
                    rw [hx6]
                    have no : ¬ atR (mp S.1 m) ka kb p → RR 148 183 [some rMo, some (.inl (nI m)), some (.inl (nI ka)), some (.inl (nI kb)), some (.inl w), some (.inl (nI (0 + 121 * m))), some (.inl (nI p)), l7] [] σc (fun q σ' => q = some (.inl (gt (w = 0) (nI (rsF (mp S.1 m) ka kb (n + 1) p c f).1) (rsF (mp S.1 m) ka kb (n + 1) p c f).2)) ∧ MS σ' S ∧ cEq σ σ') := by
                      intro hA
                      rw [show rsF (mp S.1 m) ka kb (n + 1) p c f = rsF (mp S.1 m) ka kb n (p + 1) c f from gt_f hA]
                      refine G_if rfl (fun q2 => ?_) (fun q2 => absurd rfl q2)
                      refine G_if rfl (fun q2 => ?_) (fun q2 => absurd rfl q2)
                      refine G_to [123] rfl ?_
                      refine ih (p + 1) c f _ _ _ (by omega) (by rw [nI_1]) ((hf.x (by decide)).x (by decide)) ?_ ?_ h28 (by omega) hcf
                      · intro j hj
                        exact hgn j hj
                      · show σc.1 6 0 27 + 0 = _
                        rw [h27, show (0 : Int32) = nI 0 from rfl, nI_add]
                        rfl
                    refine G_ald rfl (2 * (p ^^^ 2)) (by rw [(xor2 hp4).1, show (2 : Int32) = nI 2 from rfl, pk_mul]) (by have := (xor2 hp4).2; omega) (by decide) ?_
                    rw [(hgn (p ^^^ 2) (xor2 hp4).2).1]
                    refine G_ald rfl (2 * p) (by rw [show (2 : Int32) = nI 2 from rfl, pk_mul]) (by omega) (by decide) ?_
                    rw [(hgn p hp4).1]
                    refine G_if rfl (fun q2 => ?_) (fun q2 => ?_)
                    · exact no (fun e => absurd q2 (Int32.not_lt.mpr e.1))
                    refine G_ald rfl (2 * (p ^^^ 1) + 1) (by rw [(xor1 hp4).1, show (2 : Int32) = nI 2 from rfl, pk_mul, nI_1]) (by have := (xor1 hp4).2; omega) (by decide) ?_
                    rw [(hgn (p ^^^ 1) (xor1 hp4).2).2]
                    refine G_ald rfl (2 * p + 1) (by rw [show (2 : Int32) = nI 2 from rfl, pk_mul, nI_1]) (by omega) (by decide) ?_
                    rw [(hgn p hp4).2]
                    refine G_if rfl (fun q3 => ?_) (fun q3 => ?_)
                    · exact no (fun e => absurd q3 (Int32.not_lt.mpr e.2))
                    have hA : atR (mp S.1 m) ka kb p := ⟨Int32.not_lt.mp q2, Int32.not_lt.mp q3⟩
                    rw [show rsF (mp S.1 m) ka kb (n + 1) p c f = rsF (mp S.1 m) ka kb n (p + 1) (c + 1) (gt (f = -9) (nI (p / 2 * 10 + p % 2)) f) from gt_t hA]
                    refine G_if rfl (fun q4 => absurd q4 (by decide)) (fun q4 => ?_)
                    have last : ∀ f' : Int32, f' ≠ -9 → RR 148 221 [some rMo, some (.inl (nI m)), some (.inl (nI ka)), some (.inl (nI kb)), some (.inl w), some (.inl (nI (0 + 121 * m))), some (.inl (nI p)), some (.inl 1)] [] (hset σc.1 6 0 28 f', σc.2) (fun q σ' => q = some (.inl (gt (w = 0) (nI (rsF (mp S.1 m) ka kb n (p + 1) (c + 1) f').1) (rsF (mp S.1 m) ka kb n (p + 1) (c + 1) f').2)) ∧ MS σ' S ∧ cEq σ σ') := by
                      intro f' hf'
                      refine G_if rfl (fun q3 => absurd q3 (by decide)) (fun q3 => ?_)
                      refine G_to [123] rfl ?_
                      refine ih (p + 1) (c + 1) f' _ _ _ (by omega) (by rw [nI_1]) ((hf.x (by decide)).x (by decide)) ?_ ?_ rfl (by omega) ⟨fun e => by omega, fun e => absurd e hf'⟩
                      · intro j hj
                        exact hgn j hj
                      · show σc.1 6 0 27 + 1 = _
                        rw [h27, nI_1]
                    refine G_if rfl (fun q5 => ?_) (fun q5 => ?_)
                    · have hc0 : c ≠ 0 := fun e => q5 (by rw [h27, e]; rfl)
                      have hf9 : f ≠ -9 := fun e => hc0 (hcf.mpr e)
                      rw [gt_f hf9]
                      refine G_to [221] rfl ?_
                      rw [h28]
                      exact last f hf9
                    · have q5 := Classical.not_not.mp q5
                      rw [h27] at q5
                      have hc0 : c = 0 := ieq (b := 0) q5 (by omega) (by decide)
                      rw [gt_t (hcf.mp hc0)]
                      refine G_div rfl (by decide) ?_
                      refine G_div rfl (by decide) ?_
                      refine G_to [221] rfl ?_
                      rw [(pr10 hp4).2]
                      exact last _ (no9 (by omega))
                have late : has (mp S.1 m) ka ∨ has (mp S.1 m) kb → RR 148 83 [some rMo, some (.inl (nI m)), some (.inl (nI ka)), some (.inl (nI kb)), some (.inl w), some (.inl (nI (0 + 121 * m))), none, none] [] (hset σ.1 6 0 0 0, σ.2) (fun q σ' => q = some (.inl (gt (has (mp S.1 m) ka ∨ has (mp S.1 m) kb) (-3) (gt ((mp S.1 m).1 ≤ 38) (gt (w = 0) (nI (rsF (mp S.1 m) ka kb 4 0 0 (-9)).1) (rsF (mp S.1 m) ka kb 4 0 0 (-9)).2) (-4)))) ∧ MS σ' S ∧ cEq σ σ') := by
                  intro h
                  rw [gt_t h]
                  exact G_ret rfl ⟨rfl, hM0, hc0⟩
                refine G_to [53] rfl ?_
                rw [mb121]
                refine G_call rfl (ev_find_21 hI hV.1 (by omega) (key := ka) (by omega)) ?_
                rintro r1 σ6 ⟨rfl, ⟨ha, rfl⟩ | ⟨ha, rfl⟩⟩
                · have hlt := ha.1
                  refine G_if rfl (fun q => ?_) (fun q => absurd (Classical.not_not.mp q) (no9 (by omega)))
                  exact late (Or.inl ha)
                refine G_if rfl (fun q => absurd rfl q) (fun q => ?_)
                refine G_call rfl (ev_find_21 hI hV.1 (by omega) (key := kb) (by omega)) ?_
                rintro r1 σ7 ⟨rfl, ⟨hb, rfl⟩ | ⟨hb, rfl⟩⟩
                · have hlt := hb.1
                  refine G_if rfl (fun q => absurd q (no9 (by omega))) (fun q => ?_)
                  exact late (Or.inr hb)
                refine G_if rfl (fun q => ?_) (fun q => absurd rfl q)
                rw [gt_f (fun e => e.elim ha hb)]
                refine G_ald rfl (0 + 121 * m) rfl (by omega) (by decide) ?_
                rw [hI.1]
                refine G_if rfl (fun q => ?_) (fun q => ?_)
                · have q := ile (b := 38) q (by omega) (by decide)
                  rw [gt_t q]
                  refine G_call rfl (ev_layGains hM0 hS hm hka hkb hab ha hb q) ?_
                  rintro r1 σ8 ⟨rfl, f8, g8⟩
                  refine G_to [123] rfl ?_
                  exact loop 4 0 0 _ _ _ _ rfl nI_0.symm (((((frS.th σ).t.w).tr f8).x (by decide)).x (by decide)) (fun j hj => g8 j hj) rfl rfl (by decide) ⟨fun _ => rfl, fun _ => rfl⟩
                · have q := nle (b := 38) q (by omega) (by decide)
                  rw [gt_f (by omega)]
                  exact G_ret rfl ⟨rfl, hM0, hc0⟩
              · refine G_if rfl (fun q3 => absurd rfl q3) (fun q3 => ?_)
                exact bad (fun e => g1 (i01'.mpr e.2))
            · exact absurd rfl q
          · have h3 : ¬ okK b := fun q => h3 (i100'.mpr q)
            refine G_if rfl (fun q => ?_) (fun q => ?_)
            · exact absurd q (by decide)
            · have hg : ¬ (okM x ∧ okK a ∧ okK b) := fun q => h3 q.2.2
              rw [gt_f hg]
              exact G_ret rfl ⟨rfl, hM0, hc0⟩
      · have h2 : ¬ okK a := fun q => h2 (i100'.mpr q)
        refine G_if rfl (fun q => ?_) (fun q => ?_)
        · have hg : ¬ (okM x ∧ okK a ∧ okK b) := fun q => h2 q.2.1
          rw [gt_f hg]
          exact G_ret rfl ⟨rfl, hM0, hc0⟩
        · exact absurd (by decide) q
  · have h1 : ¬ okM x := fun q => h1 (i01'.mpr q)
    refine G_if rfl (fun q => ?_) (fun q => ?_)
    · have hg : ¬ (okM x ∧ okK a ∧ okK b) := fun q => h1 q.1
      rw [gt_f hg]
      exact G_ret rfl ⟨rfl, hM0, hc0⟩
    · exact absurd (by decide) q
