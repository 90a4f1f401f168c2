/-! rounds. Laid by wip/whole/mk62.py. -/
def shS (s : Int64) : UInt64 := s.toUInt64 >>> ((33 : Int32).toInt64.toUInt64 &&& Int64.toUInt64 63)
theorem shS_lt (s : Int64) : (shS s).toNat < 2 ^ 31 := by
  unfold shS
  rw [show ((33 : Int32).toInt64.toUInt64 &&& Int64.toUInt64 63) = 33 from by decide, UInt64.toNat_shiftRight, Nat.shiftRight_eq_div_pow]
  have h := s.toUInt64.toNat_lt
  have e : (33 : UInt64).toNat % 64 = 33 := by decide
  rw [e]
  omega
theorem shS_eq (s : Int64) : (shS s).toInt64 = lN (shS s).toNat := by
  have e : UInt64.ofNat (shS s).toNat = shS s := UInt64.ofNat_toNat
  have h : (UInt64.ofNat (shS s).toNat).toInt64 = lN (shS s).toNat := UInt64.toInt64_ofNat'
  rw [e] at h
  exact h
def drS (s : Int64) : Nat := (shS s).toNat % 200
theorem drS_eq (s : Int64) : (jlrem ((s.toUInt64 >>> ((33 : Int32).toInt64.toUInt64 &&& Int64.toUInt64 63)).toInt64) 200).toInt32 = nI (drS s) := by
  have h1 := shS_lt s
  have h2 : jlrem (lN (shS s).toNat) 200 = lN ((shS s).toNat % 200) := pk_lRem (b := 200) (by omega) (by decide) (by decide)
  show (jlrem (shS s).toInt64 200).toInt32 = _
  rw [shS_eq, h2, lN_i]
  rfl
theorem drS_lt (s : Int64) : drS s < 200 := Nat.mod_lt _ (by decide)
def nxS (s : Int64) : Int64 := s * 6364136223846793005 + 1442695040888963407
noncomputable def rdM (M : AM) (x : Nat) : AM := gt (x < 100) (plM M x 0) (toM M (x - 100))
theorem Inv.rd {M : AM} (h : Inv M) (x : Nat) : Inv (rdM M x) := by
  unfold rdM
  by_cases hx : x < 100
  · rw [gt_t hx]; exact h.pl hx (by decide)
  · rw [gt_f hx]; exact h.to _
abbrev sdS (S : SS) (s : Int64) : SS := (S.1, S.2.1, S.2.2.1, S.2.2.2.1, S.2.2.2.2.1, s)
theorem CS.sd {σ : Hp} {S : SS} {s : Int64} (h : CS σ (sdS S s)) (v : Int64) : CS (σ.1, lset σ.2.1 5 v, σ.2.2) (sdS S v) := ⟨h.1, h.2.1, h.2.2.1, h.2.2.2.1, h.2.2.2.2.1, by
  show lset σ.2.1 5 v 5 = v
  simp [lset]⟩
theorem MS.sd {σ : Hp} {S : SS} {s : Int64} (h : MS σ (sdS S s)) (v : Int64) : MS (σ.1, lset σ.2.1 6 v, σ.2.2) (sdS S v) := ⟨h.1, h.2.1, h.2.2.1, h.2.2.2.1, h.2.2.2.2.1, by
  show lset σ.2.1 6 v 6 = v
  simp [lset]⟩
theorem CS.sdv {σ : Hp} {S : SS} {v : Int64} (h : CS σ (sdS S v)) : σ.2.1 5 = v := h.2.2.2.2.2
theorem MS.sdv {σ : Hp} {S : SS} {v : Int64} (h : MS σ (sdS S v)) : σ.2.1 6 = v := h.2.2.2.2.2
theorem mEq.sd {σ σ' : Hp} (h : mEq σ σ') (v : Int64) : mEq σ (σ'.1, lset σ'.2.1 5 v, σ'.2.2) := ⟨h.1, by
  show lset σ'.2.1 5 v 6 = σ.2.1 6
  rw [← h.2.1]
  simp [lset], h.2.2⟩
theorem cEq.sd {σ σ' : Hp} (h : cEq σ σ') (v : Int64) : cEq σ (σ'.1, lset σ'.2.1 6 v, σ'.2.2) := ⟨h.1, by
  show lset σ'.2.1 6 v 5 = σ.2.1 5
  rw [← h.2.1]
  simp [lset], h.2.2⟩
theorem isI.l {σ : Hp} {j : Nat} {M : AM} (h : isI σ j M) (l : (Nat → Int64) × Nat) : isI (σ.1, l) j M := h
theorem isP.l {σ : Hp} {P mb : Nat} {M : AM} (h : isP σ P mb M) (l : (Nat → Int64) × Nat) : isP (σ.1, l) P mb M := h
theorem lset_at (f : Nat → Int64) (a : Nat) (v : Int64) : lset f a v a = v := by simp [lset]
theorem nxS_of {w s : Int64} (h : w = s) : nxS s = w * 6364136223846793005 + 1442695040888963407 := by
  rw [h]
  unfold nxS
  rfl
noncomputable def rnF : Nat → AM → Int64 → Nat → Nat × Int64
  | 0, _, s, a => (a, s)
  | n + 1, M, s, a => rnF n (rdM M (drS (nxS s))) (nxS s) (a + alF (rdM M (drS (nxS s))).2.2.2 (rdM M (drS (nxS s))).1)
def okRd (m : Int32) : Prop := ∃ k, 1 ≤ k ∧ k ≤ 30 ∧ m = nI k
theorem sdS_self (S : SS) : sdS S S.2.2.2.2.2 = S := rfl
noncomputable def rdS (S : SS) (x m : Nat) : Nat × Int64 := rnF m (mp S.1 x) S.2.2.2.2.2 0
noncomputable def fRounds (S : SS) (x m : Int32) : Int32 := gt (okM x) (gt (okRd m) (nI (rdS S x.toNatClampNeg m.toNatClampNeg).1) (-2)) (-1)
noncomputable def nRounds (S : SS) (x m : Int32) : SS := gt (okM x) (gt (okRd m) (sdS S (rdS S x.toNatClampNeg m.toNatClampNeg).2) S) S
theorem SI.sd {S : SS} (h : SI S) (s : Int64) : SI (sdS S s) := h
theorem SI.rounds {S : SS} (hS : SI S) (x m : Int32) : SI (nRounds S x m) := by
  unfold nRounds
  by_cases h1 : okM x
  · rw [gt_t h1]
    by_cases h2 : okRd m
    · rw [gt_t h2]; exact hS
    · rw [gt_f h2]; exact hS
  · rw [gt_f h1]; exact hS
theorem c_rounds {S : SS} (hS : SI S) (x n : Int32) : CSpec 83 [.inl x, .inl n] S (.inl (fRounds S x n)) (nRounds S x n) := by
  intro σ hC
  unfold fRounds nRounds
  refine G_call rfl (ev_isMap x _) ?_
  rintro r1 σ1 ⟨rfl, ⟨h1, rfl⟩ | ⟨h1, rfl⟩⟩
  · refine G_if rfl (fun q => ?_) (fun q => ?_)
    · have hg : okM x := h1
      rw [gt_t hg, gt_t hg]
      have bad : ¬ okRd n → RR 83 20 [some rT, some (.inl x), some (.inl n), none, none, none, none] [] σ1 (fun q σ' => q = some (.inl (gt (okRd n) (nI (rdS S x.toNatClampNeg n.toNatClampNeg).1) (-2))) ∧ CS σ' (gt (okRd n) (sdS S (rdS S x.toNatClampNeg n.toNatClampNeg).2) S) ∧ mEq σ1 σ') := by
        intro h
        rw [gt_f h, gt_f h]
        exact G_ret rfl ⟨rfl, hC, mEq.rf _⟩
      refine G_if rfl (fun q1 => ?_) (fun q1 => ?_)
      · exact bad (fun e => absurd q1 (Int32.not_lt.mpr ((irng1 (n := 30) (by decide)).mpr e).1))
      refine G_if rfl (fun q2 => ?_) (fun q2 => ?_)
      · have h2 : okRd n := (irng1 (n := 30) (by decide)).mp ⟨Int32.not_lt.mp q1, q2⟩
        rw [gt_t h2, gt_t h2]
        obtain ⟨m, hm, rfl⟩ := okM_nat h1
        obtain ⟨k, hk1, hk2, rfl⟩ := h2
        rw [nI_clamp (by omega), nI_clamp (by omega)]
        have hV := hS.1.at hm
        refine G_call rfl (ev_tryOn hC hS hm) ?_
        rintro r1 σ2 ⟨rfl, i2, f2⟩
        have loop : ∀ (n i a : Nat) (M : AM) (s : Int64) (x4 x5 : Int32) (l6 : Option PV) (σc : Hp), i + n = k → x4 = nI a → x5 = nI i → Inv M → isI σc (2 * 1 + m) M → CS σc (sdS S s) → mEq σ1 σc → RR 83 35 [some rT, some (.inl (nI m)), some (.inl (nI k)), some (rI (2 * 1 + m)), some (.inl x4), some (.inl x5), l6] [] σc (fun q σ' => q = some (.inl (nI (rnF n M s a).1)) ∧ CS σ' (sdS S (rnF n M s a).2) ∧ mEq σ1 σ') := by
          intro n
          induction n with
          | zero =>
            intro i a M s x4 x5 l6 σc hi hx4 hx5 hV hI hCc hmc
            refine G_if rfl (fun q => ?_) (fun q => ?_)
            · exact G_ret rfl ⟨by rw [hx4]; rfl, hCc, hmc⟩
            · rw [hx5] at q
              exact absurd (nle q (by omega) (by omega)) (by omega)
          | succ n ih =>
            intro i a M s x4 x5 l6 σc hi hx4 hx5 hV hI hCc hmc
            refine G_if rfl (fun q => ?_) (fun q => ?_)
            · rw [hx5] at q
              exact absurd (ile q (by omega) (by omega)) (by omega)
            have key : ∀ (w : Int64) (σd : Hp), nxS s = w → CS σd (sdS S w) → mEq σ1 σd → isI σd (2 * 1 + m) M → RR 83 68 [some rT, some (.inl (nI m)), some (.inl (nI k)), some (rI (2 * 1 + m)), some (.inl x4), some (.inl x5), l6] [.inr (.inl (jlrem (((σd.2.1 5).toUInt64 >>> ((33 : Int32).toInt64.toUInt64 &&& Int64.toUInt64 63)).toInt64) 200))] σd (fun q σ' => q = some (.inl (nI (rnF (n + 1) M s a).1)) ∧ CS σ' (sdS S (rnF (n + 1) M s a).2) ∧ mEq σ1 σ') := by
              intro w σd hvs hC1 hm1 hI1
              rw [hC1.sdv]
              have hre : rnF (n + 1) M s a = rnF n (rdM M (drS w)) w (a + alF (rdM M (drS w)).2.2.2 (rdM M (drS w)).1) := by rw [rnF, hvs]
              rw [hre]
              have hd := drS_lt w
              have last : ∀ σe, isI σe (2 * 1 + m) (rdM M (drS w)) → frI (2 * 1 + m) σd σe → RR 83 99 [some rT, some (.inl (nI m)), some (.inl (nI k)), some (rI (2 * 1 + m)), some (.inl x4), some (.inl x5), some (.inl (nI (drS w)))] [] σe (fun q σ' => q = some (.inl (nI (rnF n (rdM M (drS w)) w (a + alF (rdM M (drS w)).2.2.2 (rdM M (drS w)).1)).1)) ∧ CS σ' (sdS S (rnF n (rdM M (drS w)) w (a + alF (rdM M (drS w)).2.2.2 (rdM M (drS w)).1)).2) ∧ mEq σ1 σ') := by
                intro σe ie fe
                have hVe := hV.rd (drS w)
                refine G_call rfl (ev_allLooks ie hVe.1.t) ?_
                rintro r1 σf ⟨rfl, rfl⟩
                refine G_to [35] rfl ?_
                exact ih (i + 1) _ _ _ _ _ _ _ (by omega) (by rw [hx4, nI_add]) (by rw [hx5, nI_1]) hVe ie (hC1.tr fe hm) (hm1.tr fe.m)
              refine G_if rfl (fun q => ?_) (fun q => ?_)
              · rw [drS_eq] at q
                have q := ile (a := 100) q (by decide) (by omega)
                refine G_callv rfl (by rw [drS_eq, show (100 : Int32) = nI 100 from rfl, pk_sub q]) (ev_to hI1 hV (key := drS w - 100) (by omega)) ?_
                rintro r1 σe ⟨rfl, ie, fe⟩
                refine G_to [99] rfl ?_
                rw [drS_eq]
                refine last σe ?_ fe
                unfold rdM
                rw [gt_f (by omega)]
                exact ie
              · rw [drS_eq] at q
                have q := nle (a := 100) q (by decide) (by omega)
                refine G_callv rfl (by rw [drS_eq, show (0 : Int32) = nI 0 from rfl]) (ev_pl hI1 hV (key := drS w) q (v := 0) (by decide)) ?_
                rintro r1 σe ⟨rfl, ie, fe⟩
                refine G_to [99] rfl ?_
                rw [drS_eq]
                refine last σe ?_ fe
                unfold rdM
                rw [gt_t q]
                exact ie
            refine G_ldiv rfl (by decide) ?_
            exact key (σc.2.1 5 * 6364136223846793005 + 1442695040888963407) (σc.1, lset σc.2.1 5 (σc.2.1 5 * 6364136223846793005 + 1442695040888963407), σc.2.2) (nxS_of hCc.sdv) (hCc.sd (σc.2.1 5 * 6364136223846793005 + 1442695040888963407)) (hmc.sd (σc.2.1 5 * 6364136223846793005 + 1442695040888963407)) (hI.l (lset σc.2.1 5 (σc.2.1 5 * 6364136223846793005 + 1442695040888963407), σc.2.2))
        refine G_to [35] rfl ?_
        exact loop k 0 0 _ _ _ _ _ σ2 (by omega) nI_0.symm nI_0.symm hV i2 (hC.tr f2 hm) f2.m
      · exact bad (fun e => absurd ((irng1 (n := 30) (by decide)).mpr e).2 q2)
    · exact absurd (by decide) q
  · refine G_if rfl (fun q => ?_) (fun q => ?_)
    · exact absurd rfl q
    · have hg : ¬ (okM x) := fun q => h1 q
      rw [gt_f hg, gt_f hg]
      exact G_ret rfl ⟨rfl, hC, mEq.rf _⟩
theorem m_rounds {S : SS} (hS : SI S) (x n : Int32) : MSpec 154 [.inl x, .inl n] S (.inl (fRounds S x n)) (nRounds S x n) := by
  intro σ hM
  unfold fRounds nRounds
  have hM0 := hM.scr (frS.th σ)
  have hc0 := (frS.th σ).c
  refine G_call rfl (ev_noMap x _) ?_
  rintro r1 σ1 ⟨rfl, ⟨a1, a2, rfl⟩ | ⟨h1, rfl⟩⟩
  · have h1 : okM x := i01'.mp ⟨a1, a2⟩
    refine G_if rfl (fun q => ?_) (fun q => ?_)
    · have hg : okM x := h1
      rw [gt_t hg, gt_t hg]
      refine G_call rfl (ev_inI n 1 30 _) ?_
      rintro r1 σ2 ⟨rfl, ⟨g1, rfl⟩ | ⟨g1, rfl⟩⟩
      · refine G_if rfl (fun q => ?_) (fun q => absurd (by decide) q)
        have h2 : okRd n := (irng1 (n := 30) (by decide)).mp g1
        rw [gt_t h2, gt_t h2]
        obtain ⟨m, hm, rfl⟩ := okM_nat h1
        obtain ⟨k, hk1, hk2, rfl⟩ := h2
        rw [nI_clamp (by omega), nI_clamp (by omega)]
        have hV := hS.1.at hm
        refine G_call rfl (ev_begin hM0.1 hS.1.sz) ?_
        rintro r1 σ3 ⟨rfl, i3, f3⟩
        have loop : ∀ (n i a : Nat) (M : AM) (s : Int64) (x3 x4 : Int32) (l5 : Option PV) (σc : Hp), i + n = k → x3 = nI a → x4 = nI i → Inv M → isP σc 22 (0 + 121 * m) M → MS σc (sdS S s) → cEq σ σc → RR 154 38 [some rMo, some (.inl (nI m)), some (.inl (nI k)), some (.inl x3), some (.inl x4), l5] [] σc (fun q σ' => q = some (.inl (nI (rnF n M s a).1)) ∧ MS σ' (sdS S (rnF n M s a).2) ∧ cEq σ σ') := by
          intro n
          induction n with
          | zero =>
            intro i a M s x3 x4 l5 σc hi hx3 hx4 hV hI hMc hmc
            refine G_if rfl (fun q => ?_) (fun q => ?_)
            · exact G_ret rfl ⟨by rw [hx3]; rfl, hMc, hmc⟩
            · rw [hx4] at q
              exact absurd (nle q (by omega) (by omega)) (by omega)
          | succ n ih =>
            intro i a M s x3 x4 l5 σc hi hx3 hx4 hV hI hMc hmc
            refine G_if rfl (fun q => ?_) (fun q => ?_)
            · rw [hx4] at q
              exact absurd (ile q (by omega) (by omega)) (by omega)
            have key : ∀ (w : Int64) (σd : Hp), nxS s = w → MS σd (sdS S w) → cEq σ σd → isP σd 22 (0 + 121 * m) M → RR 154 71 [some rMo, some (.inl (nI m)), some (.inl (nI k)), some (.inl x3), some (.inl x4), l5] [.inr (.inl (jlrem (((σd.2.1 6).toUInt64 >>> ((33 : Int32).toInt64.toUInt64 &&& Int64.toUInt64 63)).toInt64) 200))] σd (fun q σ' => q = some (.inl (nI (rnF (n + 1) M s a).1)) ∧ MS σ' (sdS S (rnF (n + 1) M s a).2) ∧ cEq σ σ') := by
              intro w σd hvs hM1 hm1 hI1
              rw [hM1.sdv]
              have hre : rnF (n + 1) M s a = rnF n (rdM M (drS w)) w (a + alF (rdM M (drS w)).2.2.2 (rdM M (drS w)).1) := by rw [rnF, hvs]
              rw [hre]
              have hd := drS_lt w
              have last : ∀ σe, isP σe 22 (0 + 121 * m) (rdM M (drS w)) → frT σd σe → RR 154 114 [some rMo, some (.inl (nI m)), some (.inl (nI k)), some (.inl x3), some (.inl x4), some (.inl (nI (drS w)))] [] σe (fun q σ' => q = some (.inl (nI (rnF n (rdM M (drS w)) w (a + alF (rdM M (drS w)).2.2.2 (rdM M (drS w)).1)).1)) ∧ MS σ' (sdS S (rnF n (rdM M (drS w)) w (a + alF (rdM M (drS w)).2.2.2 (rdM M (drS w)).1)).2) ∧ cEq σ σ') := by
                intro σe ie fe
                have hVe := hV.rd (drS w)
                refine G_callv rfl (by rw [mb121]) (ev_pallLooks_22 ie hVe.1 (by omega)) ?_
                rintro r1 σf ⟨rfl, ff⟩
                refine G_to [38] rfl ?_
                exact ih (i + 1) _ _ _ _ _ _ _ (by omega) (by rw [hx3, all_looks hVe.1, nI_add]) (by rw [hx4, nI_1]) hVe (ff.is (by decide) ie) ((hM1.t fe).t ff.t) ((hm1.tr fe.c).tr ff.c)
              refine G_if rfl (fun q => ?_) (fun q => ?_)
              · rw [drS_eq] at q
                have q := ile (a := 100) q (by decide) (by omega)
                refine G_callv rfl (by rw [mb121, drS_eq, show (100 : Int32) = nI 100 from rfl, pk_sub q]) (ev_removes hI1 hV (by omega) (key := drS w - 100) (by omega)) ?_
                rintro r1 σe ⟨rfl, ie, fe⟩
                refine G_to [114] rfl ?_
                rw [drS_eq]
                refine last σe ?_ fe.t
                unfold rdM
                rw [gt_f (by omega)]
                exact ie
              · rw [drS_eq] at q
                have q := nle (a := 100) q (by decide) (by omega)
                refine G_callv rfl (by rw [mb121, drS_eq, show (0 : Int32) = nI 0 from rfl]) (ev_ppl_22 hI1 hV (by omega) (key := drS w) (v := 0) q) ?_
                rintro r1 σe ⟨rfl, ie, fe⟩
                refine G_to [114] rfl ?_
                rw [drS_eq]
                refine last σe ?_ fe.t
                unfold rdM
                rw [gt_t q]
                exact ie
            refine G_ldiv rfl (by decide) ?_
            exact key (σc.2.1 6 * 6364136223846793005 + 1442695040888963407) (σc.1, lset σc.2.1 6 (σc.2.1 6 * 6364136223846793005 + 1442695040888963407), σc.2.2) (nxS_of hMc.sdv) (hMc.sd (σc.2.1 6 * 6364136223846793005 + 1442695040888963407)) (hmc.sd (σc.2.1 6 * 6364136223846793005 + 1442695040888963407)) (hI.l (lset σc.2.1 6 (σc.2.1 6 * 6364136223846793005 + 1442695040888963407), σc.2.2))
        refine G_to [38] rfl ?_
        exact loop k 0 0 _ _ _ _ _ σ3 (by omega) nI_0.symm nI_0.symm hV (i3.at hm) (hM0.t f3) (hc0.tr f3.c)
      · refine G_if rfl (fun q => absurd rfl q) (fun q => ?_)
        have h2 : ¬ okRd n := fun e => g1 ((irng1 (n := 30) (by decide)).mpr e)
        rw [gt_f h2, gt_f h2]
        exact G_ret rfl ⟨rfl, hM0, hc0⟩
    · exact absurd rfl q
  · have h1 : ¬ okM x := fun q => h1 (i01'.mpr q)
    refine G_if rfl (fun q => ?_) (fun q => ?_)
    · exact absurd q (by decide)
    · have hg : ¬ (okM x) := fun q => h1 q
      rw [gt_f hg, gt_f hg]
      exact G_ret rfl ⟨rfl, hM0, hc0⟩
