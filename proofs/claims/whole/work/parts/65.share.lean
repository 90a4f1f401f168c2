/-! share. Laid by wip/whole/mk65.py. -/
def fcF : Nat → Nat
  | 0 => 1
  | n + 1 => (n + 1) * fcF n
/-- the class's table of factorials is laid -/
def facOk (σ : Hp) : Prop := ∀ j, j < 5 → σ.1 31 0 j = nI (fcF j)
theorem facOk.m {σ σ' : Hp} (h : facOk σ) (he : mEq σ σ') : facOk σ' := fun j hj => by
  rw [he.1 31 (by decide)]
  exact h j hj
theorem facOk.c {σ σ' : Hp} (h : facOk σ) (he : cEq σ σ') : facOk σ' := fun j hj => by
  rw [he.1 31 (by decide)]
  exact h j hj
theorem ev_bitCount {g : Nat} (hg : g < 16) (σ : Hp) : Ev 158 [.inl (nI g)] σ (fun r σ' => r = some (.inl (nI (mnF g))) ∧ σ' = σ) := by
  refine G_ret rfl ⟨?_, rfl⟩
  match g, hg with
  | 0, _ => rfl
  | 1, _ => rfl
  | 2, _ => rfl
  | 3, _ => rfl
  | 4, _ => rfl
  | 5, _ => rfl
  | 6, _ => rfl
  | 7, _ => rfl
  | 8, _ => rfl
  | 9, _ => rfl
  | 10, _ => rfl
  | 11, _ => rfl
  | 12, _ => rfl
  | 13, _ => rfl
  | 14, _ => rfl
  | 15, _ => rfl
  | k + 16, h => omega
theorem ev_factorial {k : Nat} (hk : k < 5) {σ : Hp} (hF : facOk σ) : Ev 71 [.inl (nI k)] σ (fun r σ' => r = some (.inl (nI (fcF k))) ∧ σ' = σ) := by
  refine G_if rfl (fun q => absurd q (nI_pos (by omega))) (fun q => ?_)
  refine G_if rfl (fun q => ?_) (fun q => ?_)
  · have := ile (a := 5) q (by decide) (by omega)
    omega
  · refine G_ald rfl k rfl hk (by decide) ?_
    rw [hF k hk]
    exact G_ret rfl ⟨rfl, rfl⟩
theorem ev_orders {k N : Nat} (hk : k + 1 ≤ N) (hN : N < 5) {σ : Hp} (hF : facOk σ) : Ev 70 [.inl (nI k), .inl (nI N)] σ (fun r σ' => r = some (.inl (nI (fcF k * fcF (N - 1 - k)))) ∧ σ' = σ) := by
  refine G_call rfl (ev_factorial (k := k) (by omega) hF) ?_
  rintro r1 σ1 ⟨rfl, rfl⟩
  refine G_callv rfl (by rw [show (1 : Int32) = nI 1 from rfl, pk_sub (by omega), pk_sub (by omega)]) (ev_factorial (k := N - 1 - k) (by omega) hF) ?_
  rintro r1 σ2 ⟨rfl, rfl⟩
  exact G_ret rfl ⟨by rw [pk_mul], rfl⟩
theorem ev_ways {k : Nat} (hk : k < 5) (σ : Hp) : Ev 142 [.inl (nI k)] σ (fun r σ' => r = some (.inl (nI (fcF k))) ∧ σ' = σ) := by
  have loop : ∀ (n i : Nat) (x1 x2 : Int32), i + n = max k 1 → 1 ≤ i → x1 = nI (fcF i) → x2 = nI (i + 1) → RR 142 4 [some (.inl (nI k)), some (.inl x1), some (.inl x2)] [] σ (fun r σ' => r = some (.inl (nI (fcF k))) ∧ σ' = σ) := by
    intro n
    induction n with
    | zero =>
      intro i x1 x2 hi h1 hx1 hx2
      refine G_if rfl (fun q => ?_) (fun q => ?_)
      · refine G_ret rfl ⟨?_, rfl⟩
        rw [hx1]
        have e : fcF i = fcF k := by
          by_cases hk0 : k = 0
          · rw [show i = 1 by omega, hk0]; rfl
          · rw [show i = k by omega]
        rw [e]
      · rw [hx2] at q
        have := nlt q (by omega) (by omega)
        omega
    | succ n ih =>
      intro i x1 x2 hi h1 hx1 hx2
      refine G_if rfl (fun q => ?_) (fun q => ?_)
      · rw [hx2] at q
        have := ilt q (by omega) (by omega)
        omega
      refine G_to [4] rfl ?_
      exact ih (i + 1) _ _ (by omega) (by omega) (by rw [hx1, hx2, pk_mul, Nat.mul_comm]; rfl) (by rw [hx2, nI_1])
  refine G_to [4] rfl ?_
  exact loop (max k 1 - 1) 1 _ _ (by omega) (by decide) rfl rfl
noncomputable def alW (M : AM) (g : Nat) : Nat := alF (woM M g).2.2.2 (woM M g).1
noncomputable def sdD (M : AM) (N i g : Nat) : Int := ((alW M g : Int) - alW M (g ||| 2 ^ i)) * ((fcF (mnF g) * fcF (N - 1 - mnF g) : Nat) : Int)
noncomputable def shF (M : AM) (N i : Nat) : Nat → Nat → Int → Int
  | 0, _, z => z
  | n + 1, g, z => shF M N i n (g + 1) (gt (g / 2 ^ i % 2 = 1) z (z + sdD M N i g))
theorem od_le : ∀ N, N < 5 → ∀ g, g < 2 ^ N → ∀ i, i < N → ¬ g / 2 ^ i % 2 = 1 → mnF g + 1 ≤ N ∧ fcF (mnF g) * fcF (N - 1 - mnF g) ≤ 6 := by decide +kernel
theorem sdD_le {M : AM} (hV : Inv M) {N i g : Nat} (hN : N < 5) (hg : g < 2 ^ N) (hi : i < N) (hb : ¬ g / 2 ^ i % 2 = 1) : (sdD M N i g).natAbs ≤ 1000000 * 6 := by
  have h1 := alF_lt (hV.woM g).1.t
  have h2 := alF_lt (hV.woM (g ||| 2 ^ i)).1.t
  have h3 := (od_le N hN g hg i hi hb).2
  unfold sdD
  rw [Int.natAbs_mul]
  refine Nat.mul_le_mul ?_ ?_
  · have h1 : alW M g < 1000000 := h1
    have h2 : alW M (g ||| 2 ^ i) < 1000000 := h2
    omega
  · rw [Int.natAbs_natCast]
    exact h3
theorem shF_le {M : AM} (hV : Inv M) {N i : Nat} (hN : N < 5) (hi : i < N) : ∀ (n g : Nat) (z : Int), g + n ≤ 2 ^ N → (shF M N i n g z).natAbs ≤ z.natAbs + n * (1000000 * 6)
  | 0, g, z, _ => by
    show z.natAbs ≤ _
    omega
  | n + 1, g, z, hg => by
    rw [shF]
    refine Nat.le_trans (shF_le hV hN hi n (g + 1) _ (by omega)) ?_
    by_cases q : g / 2 ^ i % 2 = 1
    · rw [gt_t q]; omega
    · rw [gt_f q]
      have := sdD_le hV hN (show g < 2 ^ N by omega) hi q
      have h2 := Int.natAbs_add_le z (sdD M N i g)
      omega
theorem shF_end {M : AM} (hV : Inv M) {N i : Nat} (hN : N < 5) (hi : i < N) : (shF M N i (2 ^ N) 0 0).natAbs < 2147483648 := by
  have h1 := shF_le hV hN hi (2 ^ N) 0 0 (by omega)
  have h2 := p2 (show N ≤ 4 by omega)
  rw [Int.natAbs_zero] at h1
  omega
theorem fc_b {N : Nat} (hN : N < 5) : 0 < fcF N ∧ fcF N ≤ 24 := by
  match N, hN with
  | 0, _ => decide
  | 1, _ => decide
  | 2, _ => decide
  | 3, _ => decide
  | 4, _ => decide
theorem irngN {x : Int32} {N : Nat} (hN : N < 2147483648) : (0 ≤ x ∧ x < nI N) ↔ ∃ k, k < N ∧ x = nI k := by
  constructor
  · rintro ⟨h1, h2⟩
    obtain ⟨k, hk, rfl⟩ := nI_of (Int32.not_lt.mpr h1)
    exact ⟨k, ilt h2 hk hN, rfl⟩
  · rintro ⟨k, hk, rfl⟩
    exact ⟨nI_pos' (by omega), nI_lt hk hN⟩
theorem irngM {x : Int32} {N : Nat} (hN : N < 2147483648) : (0 ≤ x ∧ x ≤ nI N - 1) ↔ ∃ k, k < N ∧ x = nI k := by
  cases N with
  | zero =>
    constructor
    · rintro ⟨h1, h2⟩
      exact absurd (Int32.le_trans h1 h2) (by decide)
    · rintro ⟨k, hk, _⟩
      omega
  | succ n =>
    rw [nI_pred, irng (by omega)]
    constructor
    · rintro ⟨k, hk, e⟩
      exact ⟨k, by omega, e⟩
    · rintro ⟨k, hk, e⟩
      exact ⟨k, by omega, e⟩
def okSh (N : Nat) (i : Int32) : Prop := ∃ k, k < N ∧ i = nI k
noncomputable def fShareN (M : AM) (i u : Int32) : Int32 := gt (okSh (min 4 M.1) i) (frF (shF M (min 4 M.1) i.toNatClampNeg (2 ^ min 4 M.1) 0 0) (fcF (min 4 M.1)) u) (-1)
noncomputable def fShare (S : SS) (x i u : Int32) : Int32 := gt (okM x) (fShareN (mp S.1 x.toNatClampNeg) i u) (-1)
theorem c_share {S : SS} (hS : SI S) (x i u : Int32) : ∀ σ, CS σ S → facOk σ → Ev 67 (rT :: [.inl x, .inl i, .inl u]) σ (fun q σ' => q = some (.inl (fShare S x i u)) ∧ CS σ' S ∧ mEq σ σ') := by
  intro σ hC hF
  unfold fShare
  refine G_call rfl (ev_isMap x _) ?_
  rintro r1 σ1 ⟨rfl, ⟨h1, rfl⟩ | ⟨h1, rfl⟩⟩
  · refine G_if rfl (fun q => ?_) (fun q => ?_)
    · have hg : okM x := h1
      rw [gt_t hg]
      obtain ⟨m, hm, rfl⟩ := okM_nat h1
      rw [nI_clamp (by omega)]
      unfold fShareN
      have hV := hS.1.at hm
      refine G_call rfl (ev_chanced hC hS hm) ?_
      rintro r1 σ2 ⟨rfl, rfl⟩
      have hN : min 4 (mp S.1 m).1 ≤ 4 := Nat.min_le_left _ _
      generalize hNe : min 4 (mp S.1 m).1 = N at hN ⊢
      have h2N := p2 hN
      have bad : ¬ okSh N i → RR 67 26 [some rT, some (.inl (nI m)), some (.inl i), some (.inl u), some (.inl (nI N)), none, none, none, none] [] σ2 (fun q σ' => q = some (.inl (gt (okSh N i) (frF (shF (mp S.1 m) N i.toNatClampNeg (2 ^ N) 0 0) (fcF N) u) (-1))) ∧ CS σ' S ∧ mEq σ2 σ') := by
        intro e
        rw [gt_f e]
        exact G_ret rfl ⟨rfl, hC, mEq.rf _⟩
      refine G_if rfl (fun q1 => ?_) (fun q1 => ?_)
      · exact bad (fun e => absurd q1 (Int32.not_lt.mpr ((irngN (by omega)).mpr e).1))
      refine G_if rfl (fun q2 => ?_) (fun q2 => ?_)
      · have h2 : okSh N i := (irngN (by omega)).mp ⟨Int32.not_lt.mp q1, q2⟩
        rw [gt_t h2]
        obtain ⟨k, hk, rfl⟩ := h2
        rw [nI_clamp (by omega)]
        have loop : ∀ (n g : Nat) (z : Int) (x6 x7 : Int32) (l8 : Option PV) (σc : Hp), g + n = 2 ^ N → x6 = iI z → x7 = nI g → frI (2 * 1 + m) σ2 σc → shF (mp S.1 m) N k n g z = shF (mp S.1 m) N k (2 ^ N) 0 0 → RR 67 39 [some rT, some (.inl (nI m)), some (.inl (nI k)), some (.inl u), some (.inl (nI N)), some (.inl (nI (2 ^ k))), some (.inl x6), some (.inl x7), l8] [] σc (fun q σ' => q = some (.inl (frF (shF (mp S.1 m) N k (2 ^ N) 0 0) (fcF N) u)) ∧ CS σ' S ∧ mEq σ2 σ') := by
          intro n
          induction n with
          | zero =>
            intro g z x6 x7 l8 σc hgn hx6 hx7 hf hre
            have hFc := hF.m hf.m
            refine G_if rfl (fun q => ?_) (fun q => ?_)
            · have e : shF (mp S.1 m) N k 0 g z = z := rfl
              rw [e] at hre
              have hfc := fc_b (show N < 5 by omega)
              refine G_call rfl (ev_factorial (k := N) (by omega) hFc) ?_
              rintro r1 σ3 ⟨rfl, rfl⟩
              refine G_callv rfl (by rw [hx6, hre]) (ev_cfrac (z := shF (mp S.1 m) N k (2 ^ N) 0 0) (b := fcF N) (shF_end hV (by omega) hk) hfc.1 (by omega) u _) ?_
              rintro r1 σ4 ⟨rfl, rfl⟩
              exact G_ret rfl ⟨rfl, hC.tr hf hm, hf.m⟩
            · rw [bt_shl N (by omega), hx7] at q
              have := nle q (by omega) (by omega)
              omega
          | succ n ih =>
            intro g z x6 x7 l8 σc hgn hx6 hx7 hf hre
            have hCc := hC.tr hf hm
            refine G_if rfl (fun q => ?_) (fun q => ?_)
            · rw [bt_shl N (by omega), hx7] at q
              have := ile q (by omega) (by omega)
              omega
            rw [shF] at hre
            refine G_if rfl (fun q => ?_) (fun q => ?_)
            · rw [hx7] at q
              have hb : g / 2 ^ k % 2 = 1 := Classical.byContradiction (fun e => q ((bt_and g (by omega) k (by omega)).mpr e))
              rw [gt_t hb] at hre
              refine G_to [39] rfl ?_
              exact ih (g + 1) z _ _ _ _ (by omega) hx6 (by rw [hx7, nI_1]) hf hre
            · rw [hx7] at q
              have hb : ¬ g / 2 ^ k % 2 = 1 := (bt_and g (by omega) k (by omega)).mp (Classical.not_not.mp q)
              rw [gt_f hb] at hre
              have hol := bt_orlt N (by omega) g (by omega) k hk
              have hod := od_le N (by omega) g (by omega) k hk hb
              refine G_callv rfl (by rw [hx7]) (ev_cwithout hCc hS hm (g := g) (by omega)) ?_
              rintro r1 σ3 ⟨rfl, i3, f3⟩
              refine G_call rfl (ev_allLooks i3 (hV.woM g).1.t) ?_
              rintro r1 σ4 ⟨rfl, rfl⟩
              have hf3 := hf.tr f3
              refine G_callv rfl (by rw [hx7, bt_or g (by omega) k (by omega)]) (ev_cwithout (hC.tr hf3 hm) hS hm (g := g ||| 2 ^ k) (by omega)) ?_
              rintro r1 σ5 ⟨rfl, i5, f5⟩
              refine G_call rfl (ev_allLooks i5 (hV.woM (g ||| 2 ^ k)).1.t) ?_
              rintro r1 σ6 ⟨rfl, rfl⟩
              have hf5 := hf3.tr f5
              refine G_callv rfl (by rw [hx7]) (ev_bitCount (g := g) (by omega) _) ?_
              rintro r1 σ7 ⟨rfl, rfl⟩
              refine G_call rfl (ev_orders (k := mnF g) (N := N) hod.1 (by omega) (hF.m hf5.m)) ?_
              rintro r1 σ8 ⟨rfl, rfl⟩
              refine G_to [39] rfl ?_
              refine ih (g + 1) (z + sdD (mp S.1 m) N k g) _ _ _ _ (by omega) ?_ (by rw [hx7, nI_1]) hf5 hre
              unfold sdD alW
              rw [hx6, ← iI_nat (alF (woM (mp S.1 m) g).2.2.2 (woM (mp S.1 m) g).1), ← iI_nat (alF (woM (mp S.1 m) (g ||| 2 ^ k)).2.2.2 (woM (mp S.1 m) (g ||| 2 ^ k)).1), ← iI_nat (fcF (mnF g) * fcF (N - 1 - mnF g)), iI_sub, iI_mul, iI_add]
        refine G_to [39] rfl ?_
        rw [bt_shl k (by omega)]
        exact loop (2 ^ N) 0 0 _ _ _ _ (by omega) rfl nI_0.symm (frI.rf _ _) rfl
      · exact bad (fun e => q2 ((irngN (by omega)).mpr e).2)
    · exact absurd (by decide) q
  · refine G_if rfl (fun q => ?_) (fun q => ?_)
    · exact absurd rfl q
    · have hg : ¬ (okM x) := fun q => h1 q
      rw [gt_f hg]
      exact G_ret rfl ⟨rfl, hC, mEq.rf _⟩
theorem m_share {S : SS} (hS : SI S) (x i u : Int32) : MSpec 137 [.inl x, .inl i, .inl u] S (.inl (fShare S x i u)) S := by
  intro σ hM
  unfold fShare
  have hM0 := hM.scr (frS.th σ)
  have hc0 := (frS.th σ).c
  refine G_call rfl (ev_noMap x _) ?_
  rintro r1 σ1 ⟨rfl, ⟨a1, a2, rfl⟩ | ⟨h1, rfl⟩⟩
  · have h1 : okM x := i01'.mp ⟨a1, a2⟩
    refine G_if rfl (fun q => absurd rfl q) (fun q => ?_)
    have hg : okM x := h1
    rw [gt_t hg]
    obtain ⟨m, hm, rfl⟩ := okM_nat h1
    rw [nI_clamp (by omega)]
    unfold fShareN
    have hV := hS.1.at hm
    refine G_callv rfl (by rw [mb121]) (ev_few (hM0.1.at hm) hV.1.1 (by omega)) ?_
    rintro r1 σ4 ⟨rfl, rfl⟩
    have hN : min 4 (mp S.1 m).1 ≤ 4 := Nat.min_le_left _ _
    have hfew : ∀ σ, isP σ 21 (0 + 121 * m) (mp S.1 m) → Ev 138 [rMo, .inl (nI (0 + 121 * m))] σ (fun r σ' => r = some (.inl (nI (min 4 (mp S.1 m).1))) ∧ σ' = σ) := fun σ h => ev_few h hV.1.1 (by omega)
    generalize hNe : min 4 (mp S.1 m).1 = N at hN hfew ⊢
    have h2N := p2 hN
    refine G_call rfl (ev_inI i 0 (nI N - 1) _) ?_
    rintro r1 σ5 ⟨rfl, ⟨g1, rfl⟩ | ⟨g1, rfl⟩⟩
    · refine G_if rfl (fun q => ?_) (fun q => absurd (by decide) q)
      have h2 : okSh N i := (irngM (by omega)).mp g1
      rw [gt_t h2]
      obtain ⟨k, hk, rfl⟩ := h2
      rw [nI_clamp (by omega)]
      refine G_callv rfl (by rw [mb121]) (hfew _ (hM0.1.at hm)) ?_
      rintro r1 σ6 ⟨rfl, rfl⟩
      have loop2 : ∀ (n g : Nat) (z : Int) (x6 x7 : Int32) (l8 : Option PV) (σc : Hp), g + n = 2 ^ N → x6 = iI z → x7 = nI g → frW (hset σ.1 6 0 0 0, σ.2) σc → (∀ j, j < 2 ^ N → σc.1 30 0 j = nI (alW (mp S.1 m) j)) → shF (mp S.1 m) N k n g z = shF (mp S.1 m) N k (2 ^ N) 0 0 → RR 137 97 [some rMo, some (.inl (nI m)), some (.inl (nI k)), some (.inl u), some (.inl (nI (0 + 121 * m))), some (.inl (nI N)), some (.inl x6), some (.inl x7), l8] [] σc (fun q σ' => q = some (.inl (frF (shF (mp S.1 m) N k (2 ^ N) 0 0) (fcF N) u)) ∧ MS σ' S ∧ cEq σ σ') := by
        intro n
        induction n with
        | zero =>
          intro g z x6 x7 l8 σc hgn hx6 hx7 hf hv hre
          refine G_if rfl (fun q => ?_) (fun q => ?_)
          · have e : shF (mp S.1 m) N k 0 g z = z := rfl
            rw [e] at hre
            have hfc := fc_b (show N < 5 by omega)
            refine G_call rfl (ev_ways (k := N) (by omega) _) ?_
            rintro r1 σ7 ⟨rfl, rfl⟩
            refine G_callv rfl (by rw [hx6, hre]) (ev_mfrac (z := shF (mp S.1 m) N k (2 ^ N) 0 0) (b := fcF N) (shF_end hV (by omega) hk) hfc.1 (by omega) u _) ?_
            rintro r1 σ8 ⟨rfl, rfl⟩
            exact G_ret rfl ⟨rfl, hM0.w hf, hc0.tr hf.c⟩
          · rw [bt_shl N (by omega), hx7] at q
            have := nle q (by omega) (by omega)
            omega
        | succ n ih =>
          intro g z x6 x7 l8 σc hgn hx6 hx7 hf hv hre
          refine G_if rfl (fun q => ?_) (fun q => ?_)
          · rw [bt_shl N (by omega), hx7] at q
            have := ile q (by omega) (by omega)
            omega
          rw [shF] at hre
          refine G_callv rfl (by rw [hx7]) (ev_has (g := g) (i := k) (by omega) (by omega) _) ?_
          rintro r1 σ7 ⟨rfl, rfl⟩
          by_cases hb : g / 2 ^ k % 2 = 1
          · rw [show ifI (g / 2 ^ k % 2 = 1) = 1 from gt_t hb]
            rw [gt_t hb] at hre
            refine G_if rfl (fun q => ?_) (fun q => absurd (by decide) q)
            refine G_to [97] rfl ?_
            exact ih (g + 1) z _ _ _ _ (by omega) hx6 (by rw [hx7, nI_1]) hf hv hre
          · rw [show ifI (g / 2 ^ k % 2 = 1) = 0 from gt_f hb]
            rw [gt_f hb] at hre
            have hol := bt_orlt N (by omega) g (by omega) k hk
            have hod := od_le N (by omega) g (by omega) k hk hb
            refine G_if rfl (fun q => absurd rfl q) (fun q => ?_)
            refine G_callv rfl (by rw [hx7]) (ev_many (g := g) (by omega) _) ?_
            rintro r1 σ8 ⟨rfl, rfl⟩
            refine G_call rfl (ev_ways (k := mnF g) (by omega) _) ?_
            rintro r1 σ9 ⟨rfl, rfl⟩
            refine G_callv rfl (by rw [show (1 : Int32) = nI 1 from rfl, pk_sub (by omega), pk_sub (by omega)]) (ev_ways (k := N - 1 - mnF g) (by omega) _) ?_
            rintro r1 σ10 ⟨rfl, rfl⟩
            refine G_ald rfl g hx7 (by omega) (by decide) ?_
            rw [hv g (by omega)]
            refine G_ald rfl (g ||| 2 ^ k) (by rw [hx7, bt_shl k (by omega), bt_or g (by omega) k (by omega)]) (by omega) (by decide) ?_
            rw [hv (g ||| 2 ^ k) hol]
            refine G_to [97] rfl ?_
            refine ih (g + 1) (z + sdD (mp S.1 m) N k g) _ _ _ _ (by omega) ?_ (by rw [hx7, nI_1]) hf hv hre
            unfold sdD
            rw [hx6, pk_mul, ← iI_nat (alW (mp S.1 m) g), ← iI_nat (alW (mp S.1 m) (g ||| 2 ^ k)), ← iI_nat (fcF (mnF g) * fcF (N - 1 - mnF g)), iI_sub, iI_mul, iI_add, Int.mul_comm]
      have loop1 : ∀ (n g : Nat) (x6 : Int32) (σc : Hp), g + n = 2 ^ N → x6 = nI g → frW (hset σ.1 6 0 0 0, σ.2) σc → (∀ j, j < g → σc.1 30 0 j = nI (alW (mp S.1 m) j)) → RR 137 51 [some rMo, some (.inl (nI m)), some (.inl (nI k)), some (.inl u), some (.inl (nI (0 + 121 * m))), some (.inl (nI N)), some (.inl x6), none, none] [] σc (fun q σ' => q = some (.inl (frF (shF (mp S.1 m) N k (2 ^ N) 0 0) (fcF N) u)) ∧ MS σ' S ∧ cEq σ σ') := by
        intro n
        induction n with
        | zero =>
          intro g x6 σc hgn hx6 hf hv
          refine G_if rfl (fun q => ?_) (fun q => ?_)
          · refine G_to [97] rfl ?_
            exact loop2 (2 ^ N) 0 0 _ _ _ _ (by omega) rfl nI_0.symm hf (fun j hj => hv j (by omega)) rfl
          · rw [bt_shl N (by omega), hx6] at q
            have := nle q (by omega) (by omega)
            omega
        | succ n ih =>
          intro g x6 σc hgn hx6 hf hv
          have hMc := hM0.w hf
          refine G_if rfl (fun q => ?_) (fun q => ?_)
          · rw [bt_shl N (by omega), hx6] at q
            have := ile q (by omega) (by omega)
            omega
          refine G_callv rfl (by rw [hx6]) (ev_mwithout hMc hS hm (g := g) (by omega)) ?_
          rintro r1 σ7 ⟨rfl, i7, f7⟩
          refine G_call rfl (ev_pallLooks_22 i7 (hV.woM g).1 (by omega)) ?_
          rintro r1 σ8 ⟨rfl, f8⟩
          rw [all_looks (hV.woM g).1]
          refine G_ast rfl g hx6 (by omega) (by decide) ?_
          refine G_to [51] rfl ?_
          refine ih (g + 1) _ _ (by omega) (by rw [hx6, nI_1]) ((hf.tr (f7.tr f8.t).w).y (by decide)) ?_
          intro j hj
          show hset σ8.1 30 0 g _ 30 0 j = _
          by_cases e : j = g
          · rw [e]
            exact ix_eq0
          · rw [hs_ne e, f8.1 30 0 (by decide), f7.1 30 0 (by decide) (by decide) (by decide) (by decide)]
            exact hv j (by omega)
      refine G_to [51] rfl ?_
      rw [mb121]
      exact loop1 (2 ^ N) 0 _ _ (by omega) nI_0.symm (frW.rf _) (fun j hj => by omega)
    · have h2 : ¬ okSh N i := fun e => g1 ((irngM (by omega)).mpr e)
      refine G_if rfl (fun q => absurd rfl q) (fun q => ?_)
      rw [gt_f h2]
      exact G_ret rfl ⟨rfl, hM0, hc0⟩
  · have h1 : ¬ okM x := fun q => h1 (i01'.mpr q)
    refine G_if rfl (fun q => ?_) (fun q => absurd (by decide) q)
    rw [gt_f h1]
    exact G_ret rfl ⟨rfl, hM0, hc0⟩
