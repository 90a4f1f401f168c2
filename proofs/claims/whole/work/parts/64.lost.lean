/-! lost. Laid by wip/whole/mk64.py. -/
def wtF (g x : Nat) : Nat → Nat → Nat → Nat
  | 0, _, a => a
  | n + 1, i, a => wtF g x n (i + 1) (a * (if g / 2 ^ i % 2 = 1 then x else 10 - x))
theorem wt_le : ∀ N, N < 5 → ∀ g, g < 16 → ∀ x, x < 11 → wtF g x N 0 1 ≤ 10000 := by decide +kernel
theorem wt_eq : ∀ N, N < 5 → ∀ g, g < 2 ^ N → ∀ x, x < 11 → wtF g x N 0 1 = x ^ mnF g * (10 - x) ^ (N - mnF g) := by decide +kernel
theorem mn_le : ∀ N, N < 5 → ∀ g, g < 2 ^ N → mnF g ≤ N := by decide +kernel
theorem ev_weight {g x N : Nat} (hg : g < 16) (hx : x < 11) (hN : N < 5) (σ : Hp) : Ev 81 [.inl (nI g), .inl (nI N), .inl (nI x)] σ (fun r σ' => r = some (.inl (nI (wtF g x N 0 1))) ∧ σ' = σ) := by
  have loop : ∀ (n i a : Nat) (x3 x4 : Int32), i + n = N → x3 = nI a → x4 = nI i → RR 81 5 [some (.inl (nI g)), some (.inl (nI N)), some (.inl (nI x)), some (.inl x3), some (.inl x4)] [] σ (fun r σ' => r = some (.inl (nI (wtF g x n i a))) ∧ σ' = σ) := by
    intro n
    induction n with
    | zero =>
      intro i a x3 x4 hi hx3 hx4
      refine G_if rfl (fun h => ?_) (fun h => ?_)
      · exact G_ret rfl ⟨by rw [hx3]; rfl, rfl⟩
      · rw [hx4] at h
        have := nle h (by omega) (by omega)
        omega
    | succ n ih =>
      intro i a x3 x4 hi hx3 hx4
      refine G_if rfl (fun h => ?_) (fun h => ?_)
      · rw [hx4] at h
        have := ile h (by omega) (by omega)
        omega
      rw [wtF]
      refine G_if rfl (fun h => ?_) (fun h => ?_)
      · rw [hx4] at h
        rw [if_neg (fun e => h ((bt_1 hg (by omega)).mpr e))]
        refine G_to [5] rfl ?_
        exact ih (i + 1) _ _ _ (by omega) (by rw [hx3, show (10 : Int32) = nI 10 from rfl, pk_sub (by omega), pk_mul]) (by rw [hx4, nI_1])
      · rw [hx4] at h
        rw [if_pos ((bt_1 hg (by omega)).mp (Classical.not_not.mp h))]
        refine G_to [5] rfl ?_
        exact ih (i + 1) _ _ _ (by omega) (by rw [hx3, pk_mul]) (by rw [hx4, nI_1])
  refine G_to [5] rfl ?_
  exact loop N 0 1 _ _ (by omega) rfl nI_0.symm
theorem ev_power (a n : Nat) (hn : n < 2147483648) (σ : Hp) : Ev 152 [.inl (nI a), .inl (nI n)] σ (fun r σ' => r = some (.inl (nI (a ^ n))) ∧ σ' = σ) := by
  have loop : ∀ (k i : Nat) (x2 x3 : Int32), i + k = n → x2 = nI (a ^ i) → x3 = nI i → RR 152 4 [some (.inl (nI a)), some (.inl (nI n)), some (.inl x2), some (.inl x3)] [] σ (fun r σ' => r = some (.inl (nI (a ^ n))) ∧ σ' = σ) := by
    intro k
    induction k with
    | zero =>
      intro i x2 x3 hi hx2 hx3
      have e : i = n := by omega
      refine G_if rfl (fun h => ?_) (fun h => ?_)
      · exact G_ret rfl ⟨by rw [hx2, e], rfl⟩
      · rw [hx3] at h
        have := nle h (by omega) (by omega)
        omega
    | succ k ih =>
      intro i x2 x3 hi hx2 hx3
      refine G_if rfl (fun h => ?_) (fun h => ?_)
      · rw [hx3] at h
        have := ile h (by omega) (by omega)
        omega
      refine G_to [4] rfl ?_
      exact ih (i + 1) _ _ (by omega) (by rw [hx2, pk_mul, Nat.pow_succ]) (by rw [hx3, nI_1])
  refine G_to [4] rfl ?_
  exact loop n 0 _ _ (by omega) rfl nI_0.symm
theorem ev_many {g : Nat} (hg : g < 16) (σ : Hp) : Ev 141 [.inl (nI g)] σ (fun r σ' => r = some (.inl (nI (mnF g))) ∧ σ' = σ) := by
  refine G_if rfl (fun q => absurd q (by decide)) (fun q => ?_)
  refine G_if rfl (fun q => absurd q (by decide)) (fun q => ?_)
  refine G_if rfl (fun q => absurd q (by decide)) (fun q => ?_)
  refine G_if rfl (fun q => absurd q (by decide)) (fun q => ?_)
  refine G_if rfl (fun q => ?_) (fun q => absurd (by decide) q)
  refine G_ret rfl ⟨?_, rfl⟩
  match g, hg with
  | 0, _ => rfl
  | 1, _ => rfl
  | 2, _ => rfl
  | 3, _ => rfl
  | 4, _ => rfl
  | 5, _ => rfl
  | 6, _ => rfl
  | 7, _ => rfl
  | 8, _ => rfl
  | 9, _ => rfl
  | 10, _ => rfl
  | 11, _ => rfl
  | 12, _ => rfl
  | 13, _ => rfl
  | 14, _ => rfl
  | 15, _ => rfl
  | k + 16, h => omega
noncomputable def loF (M : AM) (h x N : Nat) : Nat → Nat → Nat → Nat
  | 0, _, a => a
  | n + 1, g, a => loF M h x N n (g + 1) (gt (topF (woM M g).2.2.2 (woM M g).1 ≤ h) (a + wtF g x N 0 1) a)
theorem loF_le (M : AM) (h : Nat) {x N : Nat} (hx : x < 11) (hN : N < 5) : ∀ (n g a : Nat), g + n ≤ 16 → loF M h x N n g a ≤ a + n * 10000
  | 0, g, a, _ => by
    show a ≤ _
    omega
  | n + 1, g, a, hg => by
    rw [loF]
    have hw := wt_le N hN g (by omega) x hx
    refine Nat.le_trans (loF_le M h hx hN n (g + 1) _ (by omega)) ?_
    by_cases q : topF (woM M g).2.2.2 (woM M g).1 ≤ h
    · rw [gt_t q]; omega
    · rw [gt_f q]; omega
def okLo (h x : Int32) : Prop := (∃ k, k ≤ 9 ∧ h = nI k) ∧ ∃ k, k ≤ 10 ∧ x = nI k
noncomputable def fLostN (M : AM) (h x : Nat) (u : Int32) : Int32 := frF (loF M h x (min 4 M.1) (2 ^ min 4 M.1) 0 0 : Nat) (10 ^ min 4 M.1) u
noncomputable def fLost (S : SS) (x h c u : Int32) : Int32 := gt (okM x) (gt (okLo h c) (fLostN (mp S.1 x.toNatClampNeg) h.toNatClampNeg c.toNatClampNeg u) (-2)) (-1)
theorem p10 {n : Nat} (h : n ≤ 4) : 0 < 10 ^ n ∧ 10 ^ n ≤ 10000 := by
  match n, h with
  | 0, _ => decide
  | 1, _ => decide
  | 2, _ => decide
  | 3, _ => decide
  | 4, _ => decide
theorem fLost_end (M : AM) {h x N : Nat} (hx : x < 11) (hN : N ≤ 4) : ((loF M h x N (2 ^ N) 0 0 : Nat) : Int).natAbs < 2147483648 := by
  have h1 := loF_le M h hx (show N < 5 by omega) (2 ^ N) 0 0 (by have := p2 hN; omega)
  have h2 := p2 hN
  rw [Int.natAbs_natCast]
  omega
theorem c_lost {S : SS} (hS : SI S) (x h c u : Int32) : CSpec 80 [.inl x, .inl h, .inl c, .inl u] S (.inl (fLost S x h c u)) S := by
  intro σ hC
  unfold fLost
  refine G_call rfl (ev_isMap x _) ?_
  rintro r1 σ1 ⟨rfl, ⟨h1, rfl⟩ | ⟨h1, rfl⟩⟩
  · refine G_if rfl (fun q => ?_) (fun q => ?_)
    · have hg : okM x := h1
      rw [gt_t hg]
      have bad : ¬ okLo h c → RR 80 29 [some rT, some (.inl x), some (.inl h), some (.inl c), some (.inl u), none, none, none, none] [] σ1 (fun q σ' => q = some (.inl (gt (okLo h c) (fLostN (mp S.1 x.toNatClampNeg) h.toNatClampNeg c.toNatClampNeg u) (-2))) ∧ CS σ' S ∧ mEq σ1 σ') := by
        intro e
        rw [gt_f e]
        exact G_ret rfl ⟨rfl, hC, mEq.rf _⟩
      refine G_if rfl (fun q1 => ?_) (fun q1 => ?_)
      · exact bad (fun e => absurd q1 (Int32.not_lt.mpr ((irng (n := 9) (by decide)).mpr e.1).1))
      refine G_if rfl (fun q2 => ?_) (fun q2 => ?_)
      · exact bad (fun e => absurd q2 (Int32.not_lt.mpr ((irng (n := 9) (by decide)).mpr e.1).2))
      refine G_if rfl (fun q3 => ?_) (fun q3 => ?_)
      · exact bad (fun e => absurd q3 (Int32.not_lt.mpr ((irng (n := 10) (by decide)).mpr e.2).1))
      refine G_if rfl (fun q4 => ?_) (fun q4 => ?_)
      · have h2 : okLo h c := ⟨(irng (n := 9) (by decide)).mp ⟨Int32.not_lt.mp q1, Int32.not_lt.mp q2⟩, (irng (n := 10) (by decide)).mp ⟨Int32.not_lt.mp q3, q4⟩⟩
        rw [gt_t h2]
        obtain ⟨m, hm, rfl⟩ := okM_nat h1
        obtain ⟨⟨hh, hh9, rfl⟩, ⟨cc, hc10, rfl⟩⟩ := h2
        rw [nI_clamp (by omega), nI_clamp (by omega), nI_clamp (by omega)]
        unfold fLostN
        have hV := hS.1.at hm
        refine G_call rfl (ev_chanced hC hS hm) ?_
        rintro r1 σ2 ⟨rfl, rfl⟩
        have hN : min 4 (mp S.1 m).1 ≤ 4 := Nat.min_le_left _ _
        generalize hNe : min 4 (mp S.1 m).1 = N at hN ⊢
        have h2N := p2 hN
        have loop2 : ∀ (n g a : Nat) (x6 x8 : Int32) (σc : Hp), g + n = 2 ^ N → x6 = nI a → x8 = nI g → frI (2 * 1 + m) σ2 σc → (loF (mp S.1 m) hh cc N n g a = loF (mp S.1 m) hh cc N (2 ^ N) 0 0) → RR 80 71 [some rT, some (.inl (nI m)), some (.inl (nI hh)), some (.inl (nI cc)), some (.inl u), some (.inl (nI N)), some (.inl x6), some (.inl (nI (10 ^ N))), some (.inl x8)] [] σc (fun q σ' => q = some (.inl (frF (loF (mp S.1 m) hh cc N (2 ^ N) 0 0 : Nat) (10 ^ N) u)) ∧ CS σ' S ∧ mEq σ2 σ') := by
          intro n
          induction n with
          | zero =>
            intro g a x6 x8 σc hgn hx6 hx8 hf hre
            rw [hx8]
            refine G_if rfl (fun q => ?_) (fun q => ?_)
            · have e : loF (mp S.1 m) hh cc N 0 g a = a := rfl
              rw [e] at hre
              have h10 := p10 hN
              refine G_callv rfl (by rw [hx6, hre, ← iI_nat]) (ev_cfrac (z := (loF (mp S.1 m) hh cc N (2 ^ N) 0 0 : Nat)) (b := 10 ^ N) (fLost_end _ (by omega) hN) h10.1 (by omega) u _) ?_
              rintro r1 σ3 ⟨rfl, rfl⟩
              exact G_ret rfl ⟨rfl, hC.tr hf hm, hf.m⟩
            · rw [bt_shl N (by omega)] at q
              have := nle q (by omega) (by omega)
              omega
          | succ n ih =>
            intro g a x6 x8 σc hgn hx6 hx8 hf hre
            have hCc := hC.tr hf hm
            refine G_if rfl (fun q => ?_) (fun q => ?_)
            · rw [bt_shl N (by omega), hx8] at q
              have := ile q (by omega) (by omega)
              omega
            rw [loF] at hre
            have hVw := hV.woM g
            have hT := topF_le (b := 64) (woM (mp S.1 m) g).1 hVw.1.t.2
            refine G_callv rfl (by rw [hx8]) (ev_cwithout hCc hS hm (g := g) (by omega)) ?_
            rintro r1 σ3 ⟨rfl, i3, f3⟩
            have hf3 := hf.tr f3
            refine G_call rfl (ev_top i3 hVw.1.t) ?_
            rintro r1 σ4 ⟨rfl, rfl⟩
            refine G_if rfl (fun q => ?_) (fun q => ?_)
            · have q := ilt q (by omega) (by omega)
              rw [gt_f (by omega)] at hre
              refine G_to [71] rfl ?_
              exact ih (g + 1) a _ _ _ (by omega) hx6 (by rw [hx8, nI_1]) hf3 hre
            · have q := nlt q (by omega) (by omega)
              rw [gt_t q] at hre
              refine G_callv rfl (by rw [hx8]) (ev_weight (g := g) (x := cc) (N := N) (by omega) (by omega) (by omega) _) ?_
              rintro r1 σ5 ⟨rfl, rfl⟩
              refine G_to [71] rfl ?_
              exact ih (g + 1) _ _ _ _ (by omega) (by rw [hx6, nI_add]) (by rw [hx8, nI_1]) hf3 hre
        have loop1 : ∀ (n i : Nat) (x7 x8 : Int32), i + n = N → x7 = nI (10 ^ i) → x8 = nI i → RR 80 48 [some rT, some (.inl (nI m)), some (.inl (nI hh)), some (.inl (nI cc)), some (.inl u), some (.inl (nI N)), some (.inl 0), some (.inl x7), some (.inl x8)] [] σ2 (fun q σ' => q = some (.inl (frF (loF (mp S.1 m) hh cc N (2 ^ N) 0 0 : Nat) (10 ^ N) u)) ∧ CS σ' S ∧ mEq σ2 σ') := by
          intro n
          induction n with
          | zero =>
            intro i x7 x8 hi hx7 hx8
            have e : i = N := by omega
            refine G_if rfl (fun q => ?_) (fun q => ?_)
            · refine G_to [71] rfl ?_
              rw [hx7, e]
              exact loop2 (2 ^ N) 0 0 _ _ _ (by omega) nI_0.symm nI_0.symm (frI.rf _ _) rfl
            · rw [hx8] at q
              have := nle q (by omega) (by omega)
              omega
          | succ n ih =>
            intro i x7 x8 hi hx7 hx8
            refine G_if rfl (fun q => ?_) (fun q => ?_)
            · rw [hx8] at q
              have := ile q (by omega) (by omega)
              omega
            refine G_to [48] rfl ?_
            exact ih (i + 1) _ _ (by omega) (by rw [hx7, show (10 : Int32) = nI 10 from rfl, pk_mul, Nat.pow_succ]) (by rw [hx8, nI_1])
        refine G_to [48] rfl ?_
        exact loop1 N 0 _ _ (by omega) rfl nI_0.symm
      · exact bad (fun e => absurd ((irng (n := 10) (by decide)).mpr e.2).2 q4)
    · exact absurd (by decide) q
  · refine G_if rfl (fun q => ?_) (fun q => ?_)
    · exact absurd rfl q
    · have hg : ¬ (okM x) := fun q => h1 q
      rw [gt_f hg]
      exact G_ret rfl ⟨rfl, hC, mEq.rf _⟩
theorem m_lost {S : SS} (hS : SI S) (x h c u : Int32) : MSpec 151 [.inl x, .inl h, .inl c, .inl u] S (.inl (fLost S x h c u)) S := by
  intro σ hM
  unfold fLost
  have hM0 := hM.scr (frS.th σ)
  have hc0 := (frS.th σ).c
  refine G_call rfl (ev_noMap x _) ?_
  rintro r1 σ1 ⟨rfl, ⟨a1, a2, rfl⟩ | ⟨h1, rfl⟩⟩
  · have h1 : okM x := i01'.mp ⟨a1, a2⟩
    refine G_if rfl (fun q => ?_) (fun q => ?_)
    · have hg : okM x := h1
      rw [gt_t hg]
      have bad : ¬ okLo h c → RR 151 38 [some rMo, some (.inl x), some (.inl h), some (.inl c), some (.inl u), none, none, none, none, none] [] (hset σ.1 6 0 0 0, σ.2) (fun q σ' => q = some (.inl (gt (okLo h c) (fLostN (mp S.1 x.toNatClampNeg) h.toNatClampNeg c.toNatClampNeg u) (-2))) ∧ MS σ' S ∧ cEq σ σ') := by
        intro e
        rw [gt_f e]
        exact G_ret rfl ⟨rfl, hM0, hc0⟩
      refine G_call rfl (ev_inI h 0 9 _) ?_
      rintro r1 σ2 ⟨rfl, ⟨g1, rfl⟩ | ⟨g1, rfl⟩⟩
      · refine G_if rfl (fun q => absurd q (by decide)) (fun q => ?_)
        refine G_call rfl (ev_inI c 0 10 _) ?_
        rintro r1 σ3 ⟨rfl, ⟨g2, rfl⟩ | ⟨g2, rfl⟩⟩
        · refine G_if rfl (fun q => ?_) (fun q => absurd (by decide) q)
          have h2 : okLo h c := ⟨(irng (n := 9) (by decide)).mp g1, (irng (n := 10) (by decide)).mp g2⟩
          rw [gt_t h2]
          obtain ⟨m, hm, rfl⟩ := okM_nat h1
          obtain ⟨⟨hh, hh9, rfl⟩, ⟨cc, hc10, rfl⟩⟩ := h2
          rw [nI_clamp (by omega), nI_clamp (by omega), nI_clamp (by omega)]
          unfold fLostN
          have hV := hS.1.at hm
          refine G_callv rfl (by rw [mb121]) (ev_few (hM0.1.at hm) hV.1.1 (by omega)) ?_
          rintro r1 σ4 ⟨rfl, rfl⟩
          have hN : min 4 (mp S.1 m).1 ≤ 4 := Nat.min_le_left _ _
          generalize hNe : min 4 (mp S.1 m).1 = N at hN ⊢
          have h2N := p2 hN
          have loop2 : ∀ (n g a : Nat) (x7 x8 : Int32) (l9 : Option PV) (σc : Hp), g + n = 2 ^ N → x7 = nI a → x8 = nI g → frT (hset σ.1 6 0 0 0, σ.2) σc → (loF (mp S.1 m) hh cc N n g a = loF (mp S.1 m) hh cc N (2 ^ N) 0 0) → RR 151 61 [some rMo, some (.inl (nI m)), some (.inl (nI hh)), some (.inl (nI cc)), some (.inl u), some (.inl (nI (0 + 121 * m))), some (.inl (nI N)), some (.inl x7), some (.inl x8), l9] [] σc (fun q σ' => q = some (.inl (frF (loF (mp S.1 m) hh cc N (2 ^ N) 0 0 : Nat) (10 ^ N) u)) ∧ MS σ' S ∧ cEq σ σ') := by
            intro n
            induction n with
            | zero =>
              intro g a x7 x8 l9 σc hgn hx7 hx8 hf hre
              rw [hx8]
              refine G_if rfl (fun q => ?_) (fun q => ?_)
              · have e : loF (mp S.1 m) hh cc N 0 g a = a := rfl
                rw [e] at hre
                have h10 := p10 hN
                refine G_callv rfl (by rw [show (10 : Int32) = nI 10 from rfl]) (ev_power 10 N (by omega) _) ?_
                rintro r1 σ5 ⟨rfl, rfl⟩
                refine G_callv rfl (by rw [hx7, hre, ← iI_nat]) (ev_mfrac (z := (loF (mp S.1 m) hh cc N (2 ^ N) 0 0 : Nat)) (b := 10 ^ N) (fLost_end _ (by omega) hN) h10.1 (by omega) u _) ?_
                rintro r1 σ6 ⟨rfl, rfl⟩
                exact G_ret rfl ⟨rfl, hM0.t hf, hc0.tr hf.c⟩
              · rw [bt_shl N (by omega)] at q
                have := nle q (by omega) (by omega)
                omega
            | succ n ih =>
              intro g a x7 x8 l9 σc hgn hx7 hx8 hf hre
              have hMc := hM0.t hf
              refine G_if rfl (fun q => ?_) (fun q => ?_)
              · rw [bt_shl N (by omega), hx8] at q
                have := ile q (by omega) (by omega)
                omega
              rw [loF] at hre
              have hVw := hV.woM g
              have hT := topF_le (b := 64) (woM (mp S.1 m) g).1 hVw.1.t.2
              have hmn := mn_le N (by omega) g (by omega)
              refine G_callv rfl (by rw [hx8]) (ev_mwithout hMc hS hm (g := g) (by omega)) ?_
              rintro r1 σ5 ⟨rfl, i5, f5⟩
              have hf5 := hf.tr f5
              refine G_callv rfl (by rw [hx8]) (ev_many (g := g) (by omega) _) ?_
              rintro r1 σ6 ⟨rfl, rfl⟩
              refine G_call rfl (ev_ptop_22 i5 hVw.1.t (by omega)) ?_
              rintro r1 σ7 ⟨rfl, rfl⟩
              refine G_if rfl (fun q => ?_) (fun q => ?_)
              · have q := ilt q (by omega) (by omega)
                rw [gt_f (by omega)] at hre
                refine G_to [61] rfl ?_
                exact ih (g + 1) a _ _ _ _ (by omega) (by rw [hx7, show (0 : Int32) = nI 0 from rfl, nI_add]; rfl) (by rw [hx8, nI_1]) hf5 hre
              · have q := nlt q (by omega) (by omega)
                rw [gt_t q] at hre
                refine G_call rfl (ev_power cc (mnF g) (by omega) _) ?_
                rintro r1 σ8 ⟨rfl, rfl⟩
                refine G_callv rfl (by rw [show (10 : Int32) = nI 10 from rfl, pk_sub (by omega), pk_sub hmn]) (ev_power (10 - cc) (N - mnF g) (by omega) _) ?_
                rintro r1 σ9 ⟨rfl, rfl⟩
                refine G_to [61] rfl ?_
                exact ih (g + 1) _ _ _ _ _ (by omega) (by rw [hx7, pk_mul, ← wt_eq N (by omega) g (by omega) cc (by omega), nI_add]) (by rw [hx8, nI_1]) hf5 hre
          refine G_to [61] rfl ?_
          rw [mb121]
          exact loop2 (2 ^ N) 0 0 _ _ _ _ (by omega) nI_0.symm nI_0.symm (frT.rf _) rfl
        · refine G_if rfl (fun q => absurd rfl q) (fun q => ?_)
          exact bad (fun e => g2 ((irng (n := 10) (by decide)).mpr e.2))
      · refine G_if rfl (fun q => ?_) (fun q => absurd rfl q)
        exact bad (fun e => g1 ((irng (n := 9) (by decide)).mpr e.1))
    · exact absurd rfl q
  · have h1 : ¬ okM x := fun q => h1 (i01'.mpr q)
    refine G_if rfl (fun q => ?_) (fun q => ?_)
    · exact absurd q (by decide)
    · have hg : ¬ (okM x) := fun q => h1 q
      rw [gt_f hg]
      exact G_ret rfl ⟨rfl, hM0, hc0⟩
