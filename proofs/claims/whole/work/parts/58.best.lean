/-! best. Laid by wip/whole/mk58.py. -/
theorem sm_le : ∀ (n b : Nat) (f : Nat → Nat), (∀ i, i < n → f i ≤ b) → sm n f ≤ n * b
  | 0, _, _, _ => by simp [sm]
  | n + 1, b, f, h => by
    have h1 := sm_le n b f (fun i hi => h i (by omega))
    have h2 := h n (by omega)
    have e : sm (n + 1) f = sm n f + f n := rfl
    rw [e, Nat.succ_mul]
    omega
theorem cst_le (T : Nat → Nat) (n l i : Nat) : cst T n l i ≤ i + 1 := by
  have h1 := cntF_le T l (i - ahF T (l + 1) i) (ahF T (l + 1) i)
  unfold cst pas
  split
  · omega
  · split
    · omega
    · split <;> omega
theorem alF_lt {M : AM} (hw : wfT M) : alF M.2.2.2 M.1 < 1000000 := by
  have hn := hw.1
  have ht := topF_le (b := 64) M.1 hw.2
  unfold alF
  rw [alO_eq, Nat.zero_add]
  have h1 : ∀ l, sm M.1 (cst M.2.2.2 M.1 l) ≤ 40 * 40 := fun l => by
    have := sm_le M.1 40 (cst M.2.2.2 M.1 l) (fun i hi => by have := cst_le M.2.2.2 M.1 l i; omega)
    have h2 : M.1 * 40 ≤ 40 * 40 := Nat.mul_le_mul_right 40 hn
    omega
  have h2 := sm_le (topF M.2.2.2 M.1) (40 * 40) (fun l => sm M.1 (cst M.2.2.2 M.1 l)) (fun l _ => h1 l)
  have h3 : topF M.2.2.2 M.1 * (40 * 40) ≤ 64 * (40 * 40) := Nat.mul_le_mul_right (40 * 40) ht
  omega
noncomputable def lkW (M : AM) (key : Nat) : Nat := alF (plM M key 0).2.2.2 (plM M key 0).1
abbrev BS : Type := Option (Nat × Nat)
def sK (s : BS) : Int32 := match s with
  | none => -9
  | some p => nI p.1
def sB (s : BS) : Int32 := match s with
  | none => -9
  | some p => nI p.2
def upS (s : BS) (key n : Nat) : BS := match s with
  | none => some (key, n)
  | some p => if n < p.2 then some (key, n) else some p
noncomputable def bsF (M : AM) : Nat → Nat → BS → BS
  | 0, _, s => s
  | n + 1, key, s => bsF M n (key + 1) (gt (M.1 < 40 ∧ ¬ has M key) (upS s key (lkW M key)) s)
def okBs (s : BS) : Prop := ∀ p, s = some p → p.1 < 100 ∧ p.2 < 1000000
theorem okBs.up {s : BS} (h : okBs s) {key n : Nat} (hk : key < 100) (hn : n < 1000000) : okBs (upS s key n) := by
  intro p hp
  unfold upS at hp
  split at hp
  · cases hp
    exact ⟨hk, hn⟩
  · split at hp
    · cases hp
      exact ⟨hk, hn⟩
    · cases hp
      exact h _ rfl
theorem lkW_eq {M : AM} (hw : wfM M) {key : Nat} (h1 : ¬ has M key) (h2 : ¬ has M (key + 1)) (hn : M.1 < 40) : lkW M (key + 1) = lkW M key := by
  unfold lkW plM
  rw [gt_f h1, gt_f h2, gt_t hn, gt_t hn]
  unfold placeM insM
  rw [les_no hw h1]
noncomputable def fBestN (M : AM) (w : Int32) : Int32 := gt (w = 0) (sK (bsF M 100 0 none)) (sB (bsF M 100 0 none))
noncomputable def fBest (S : SS) (x w : Int32) : Int32 := gt (okM x) (gt (okM w) (fBestN (mp S.1 x.toNatClampNeg) w) (-2)) (-1)
theorem ev_isWorth {σ : Hp} {S : SS} (hC : CS σ S) (hS : SI S) {m : Nat} (hm : m < 2) {key : Nat} (hk : key < 100) : Ev 63 [rT, .inl (nI m), .inl (nI key)] σ (fun r σ' => σ' = σ ∧ ((((mp S.1 m).1 < 40 ∧ ¬ has (mp S.1 m) key ∧ (key = 0 ∨ has (mp S.1 m) (key - 1))) ∧ r = some (.inl 1)) ∨ (¬ ((mp S.1 m).1 < 40 ∧ ¬ has (mp S.1 m) key ∧ (key = 0 ∨ has (mp S.1 m) (key - 1))) ∧ r = some (.inl 0)))) := by
  have hI := hC.1.at hm
  have hV := hS.1.at hm
  have hn := hV.1.1
  refine G_call rfl (ev_of 0 hm σ) ?_
  rintro r1 σ1 ⟨rfl, rfl⟩
  refine G_call rfl (ev_indexOf hI hV.1 (key := key) (by omega)) ?_
  rintro r1 σ2 ⟨rfl, ⟨hh, rfl⟩ | ⟨hh, rfl⟩⟩
  · have hlt := hh.1
    refine G_if rfl (fun q => ?_) (fun q => absurd (nI_pos' (by omega)) q)
    exact G_retZ rfl (Or.inl rfl) ⟨rfl, Or.inr ⟨fun e => e.2.1 hh, rfl⟩⟩
  · refine G_if rfl (fun q => absurd q (by decide)) (fun q => ?_)
    refine G_call rfl (ev_canTake hI hV.1 (key := key) (by omega)) ?_
    rintro r1 σ3 ⟨rfl, ⟨h2, rfl⟩ | ⟨h2, rfl⟩⟩
    · have h2 : (mp S.1 m).1 < 40 := h2.elim id (fun e => absurd e hh)
      refine G_if rfl (fun q => ?_) (fun q => absurd (by decide) q)
      refine G_if rfl (fun q3 => ?_) (fun q3 => ?_)
      · have q3 := ieq (b := 0) q3 (by omega) (by decide)
        exact G_retZ rfl (Or.inr rfl) ⟨rfl, Or.inl ⟨⟨h2, hh, Or.inl q3⟩, rfl⟩⟩
      · have q3 : key ≠ 0 := fun e => q3 (by rw [e]; rfl)
        refine G_callv rfl (by rw [lm1 (by omega)]) (ev_indexOf hI hV.1 (key := key - 1) (by omega)) ?_
        rintro r1 σ4 ⟨rfl, ⟨h4, rfl⟩ | ⟨h4, rfl⟩⟩
        · have hlt := h4.1
          refine G_if rfl (fun q => absurd q (nI_pos (by omega))) (fun q => ?_)
          exact G_retZ rfl (Or.inr rfl) ⟨rfl, Or.inl ⟨⟨h2, hh, Or.inr h4⟩, rfl⟩⟩
        · refine G_if rfl (fun q => ?_) (fun q => absurd (by decide) q)
          exact G_retZ rfl (Or.inl rfl) ⟨rfl, Or.inr ⟨fun e => e.2.2.elim q3 h4, rfl⟩⟩
    · refine G_if rfl (fun q => absurd rfl q) (fun q => ?_)
      exact G_retZ rfl (Or.inl rfl) ⟨rfl, Or.inr ⟨fun e => h2 (Or.inl e.1), rfl⟩⟩
theorem ev_looksWith {σ : Hp} {S : SS} (hC : CS σ S) (hS : SI S) {m : Nat} (hm : m < 2) {key : Nat} (hk : key < 100) : Ev 64 [rT, .inl (nI m), .inl (nI key)] σ (fun r σ' => r = some (.inl (nI (lkW (mp S.1 m) key))) ∧ frI (2 * 1 + m) σ σ') := by
  have hV := hS.1.at hm
  refine G_call rfl (ev_tryOn hC hS hm) ?_
  rintro r1 σ1 ⟨rfl, i1, f1⟩
  refine G_callv rfl (by rw [show (0 : Int32) = nI 0 from rfl]) (ev_pl i1 hV hk (v := 0) (by decide)) ?_
  rintro r1 σ2 ⟨rfl, i2, f2⟩
  refine G_call rfl (ev_allLooks i2 (hV.pl hk (by decide)).1.t) ?_
  rintro r1 σ3 ⟨rfl, rfl⟩
  exact G_ret rfl ⟨rfl, f1.tr f2⟩
theorem c_best {S : SS} (hS : SI S) (x w : Int32) : CSpec 62 [.inl x, .inl w] S (.inl (fBest S x w)) S := by
  intro σ hC
  unfold fBest
  refine G_call rfl (ev_isMap x _) ?_
  rintro r1 σ1 ⟨rfl, ⟨h1, rfl⟩ | ⟨h1, rfl⟩⟩
  · refine G_if rfl (fun q => ?_) (fun q => ?_)
    · have hg : okM x := h1
      rw [gt_t hg]
      obtain ⟨m, hm, rfl⟩ := okM_nat h1
      rw [nI_clamp (by omega)]
      have hV := hS.1.at hm
      have loop : ∀ (n key : Nat) (s : BS) (σc : Hp) (x3 x4 x5 : Int32) (l6 : Option PV), key + n = 100 → x5 = nI key → x3 = sK s → x4 = sB s → okBs s → CS σc S → mEq σ1 σc → (0 < key → (mp S.1 m).1 < 40 → ¬ has (mp S.1 m) (key - 1) → ∃ p, s = some p ∧ p.2 ≤ lkW (mp S.1 m) (key - 1)) → RR 62 31 [some rT, some (.inl (nI m)), some (.inl w), some (.inl x3), some (.inl x4), some (.inl x5), l6] [] σc (fun q σ' => q = some (.inl (gt (w = 0) (sK (bsF (mp S.1 m) n key s)) (sB (bsF (mp S.1 m) n key s)))) ∧ CS σ' S ∧ mEq σ1 σ') := by
        intro n
        induction n with
        | zero =>
          intro key s σc x3 x4 x5 l6 hk hx5 hx3 hx4 hs hCc hmc hinv
          refine G_if rfl (fun q => ?_) (fun q => ?_)
          · refine G_if rfl (fun q2 => ?_) (fun q2 => ?_)
            · rw [gt_f q2]
              exact G_ret rfl ⟨by rw [hx4]; rfl, hCc, hmc⟩
            · rw [gt_t (Classical.not_not.mp q2)]
              exact G_ret rfl ⟨by rw [hx3]; rfl, hCc, hmc⟩
          · rw [hx5] at q
            have := nle (a := 100) q (by decide) (by omega)
            omega
        | succ n ih =>
          intro key s σc x3 x4 x5 l6 hk hx5 hx3 hx4 hs hCc hmc hinv
          have hVp := hV.pl (key := key) (v := 0) (by omega) (by decide)
          have hlk : lkW (mp S.1 m) key < 1000000 := alF_lt hVp.1.t
          refine G_if rfl (fun q => ?_) (fun q => ?_)
          · rw [hx5] at q
            have := ile (a := 100) q (by decide) (by omega)
            omega
          · refine G_callv rfl (by rw [hx5]) (ev_isWorth hCc hS hm (key := key) (by omega)) ?_
            rintro r1 σ2 ⟨rfl, ⟨hw, rfl⟩ | ⟨hw, rfl⟩⟩
            · refine G_if rfl (fun q2 => ?_) (fun q2 => absurd (by decide) q2)
              refine G_callv rfl (by rw [hx5]) (ev_looksWith hCc hS hm (key := key) (by omega)) ?_
              rintro r1 σ3 ⟨rfl, f3⟩
              have hC3 := hCc.tr f3 hm
              have hm3 := hmc.tr f3.m
              rw [show bsF (mp S.1 m) (n + 1) key s = bsF (mp S.1 m) n (key + 1) (upS s key (lkW (mp S.1 m) key)) from by
                show bsF _ n (key + 1) (gt _ _ _) = _
                rw [gt_t ⟨hw.1, hw.2.1⟩]]
              have take : upS s key (lkW (mp S.1 m) key) = some (key, lkW (mp S.1 m) key) → RR 62 73 [some rT, some (.inl (nI m)), some (.inl w), some (.inl x3), some (.inl x4), some (.inl x5), some (.inl (nI (lkW (mp S.1 m) key)))] [] σ3 (fun q σ' => q = some (.inl (gt (w = 0) (sK (bsF (mp S.1 m) n (key + 1) (upS s key (lkW (mp S.1 m) key)))) (sB (bsF (mp S.1 m) n (key + 1) (upS s key (lkW (mp S.1 m) key)))))) ∧ CS σ' S ∧ mEq σ1 σ') := by
                intro e
                refine G_to [31] rfl ?_
                refine ih (key + 1) _ σ3 _ _ _ _ (by omega) (by rw [hx5, nI_1]) (by rw [e, hx5]; rfl) (by rw [e]; rfl) (hs.up (by omega) hlk) hC3 hm3 (fun _ _ _ => ⟨_, e, Nat.le_refl _⟩)
              cases s with
              | none =>
                refine G_if rfl (fun q3 => ?_) (fun q3 => absurd hx3 q3)
                exact take rfl
              | some p =>
                have hp := hs p rfl
                refine G_if rfl (fun q3 => ?_) (fun q3 => ?_)
                · rw [hx3] at q3
                  exact absurd q3 (no9 (by omega))
                · refine G_if rfl (fun q4 => ?_) (fun q4 => ?_)
                  · rw [hx4] at q4
                    have q4 := ile q4 (by omega) (by omega)
                    have e : upS (some p) key (lkW (mp S.1 m) key) = some p := if_neg (by omega)
                    refine G_to [31] rfl ?_
                    refine ih (key + 1) _ σ3 _ _ _ _ (by omega) (by rw [hx5, nI_1]) (by rw [e, hx3]) (by rw [e, hx4]) (hs.up (by omega) hlk) hC3 hm3 (fun _ _ _ => ⟨p, e, q4⟩)
                  · rw [hx4] at q4
                    have q4 := nle q4 (by omega) (by omega)
                    exact take (if_pos q4)
            · refine G_if rfl (fun q2 => absurd rfl q2) (fun q2 => ?_)
              refine G_to [31] rfl ?_
              by_cases h4 : (mp S.1 m).1 < 40 ∧ ¬ has (mp S.1 m) key
              · have hk0 : 0 < key := Nat.pos_of_ne_zero (fun e => hw ⟨h4.1, h4.2, Or.inl e⟩)
                have hno : ¬ has (mp S.1 m) (key - 1) := fun e => hw ⟨h4.1, h4.2, Or.inr e⟩
                obtain ⟨p, hp, hple⟩ := hinv hk0 h4.1 hno
                have e1 := lkW_eq hV.1 hno (by rw [Nat.sub_add_cancel hk0]; exact h4.2) h4.1
                rw [Nat.sub_add_cancel hk0] at e1
                have e : upS s key (lkW (mp S.1 m) key) = s := by
                  rw [hp]
                  exact if_neg (by rw [e1]; omega)
                rw [show bsF (mp S.1 m) (n + 1) key s = bsF (mp S.1 m) n (key + 1) s from by
                  show bsF _ n (key + 1) (gt _ _ _) = _
                  rw [gt_t h4, e]]
                exact ih (key + 1) s _ _ _ _ _ (by omega) (by rw [hx5, nI_1]) hx3 hx4 hs hCc hmc (fun _ _ _ => ⟨p, hp, by rw [Nat.add_sub_cancel, e1]; exact hple⟩)
              · rw [show bsF (mp S.1 m) (n + 1) key s = bsF (mp S.1 m) n (key + 1) s from by
                  show bsF _ n (key + 1) (gt _ _ _) = _
                  rw [gt_f h4]]
                exact ih (key + 1) s _ _ _ _ _ (by omega) (by rw [hx5, nI_1]) hx3 hx4 hs hCc hmc (fun _ q3 q4 => absurd ⟨q3, q4⟩ h4)
      have fin : RR 62 21 [some rT, some (.inl (nI m)), some (.inl w), none, none, none, none] [] σ1 (fun q σ' => q = some (.inl (fBestN (mp S.1 m) w)) ∧ CS σ' S ∧ mEq σ1 σ') := by
        refine G_to [31] rfl ?_
        exact loop 100 0 none σ1 _ _ _ _ rfl nI_0.symm rfl rfl (fun p hp => by cases hp) hC (mEq.rf _) (fun q => absurd q (by decide))
      refine G_if rfl (fun q3 => ?_) (fun q3 => ?_)
      · have hu : okM w := Or.inl q3
        rw [gt_t hu]
        exact fin
      refine G_if rfl (fun q4 => ?_) (fun q4 => ?_)
      · have hu : okM w := Or.inr q4
        rw [gt_t hu]
        exact fin
      · rw [gt_f (fun e => e.elim q3 q4)]
        exact G_ret rfl ⟨rfl, hC, mEq.rf _⟩
    · exact absurd (by decide) q
  · refine G_if rfl (fun q => ?_) (fun q => ?_)
    · exact absurd rfl q
    · have hg : ¬ (okM x) := fun q => h1 q
      rw [gt_f hg]
      exact G_ret rfl ⟨rfl, hC, mEq.rf _⟩
theorem ev_findBest {σ : Hp} {S : SS} (hM : MS σ S) (hS : SI S) {m : Nat} (hm : m < 2) : Ev 132 [rMo, .inl (nI (0 + 121 * m))] σ (fun r σ' => r = none ∧ frW σ σ' ∧ σ'.1 6 0 23 = sK (bsF (mp S.1 m) 100 0 none) ∧ σ'.1 6 0 24 = sB (bsF (mp S.1 m) 100 0 none)) := by
  have hV := hS.1.at hm
  have hn := hV.1.1
  have loop : ∀ (n key : Nat) (s : BS) (σc : Hp) (x2 : Int32) (l3 : Option PV), key + n = 100 → x2 = nI key → σc.1 6 0 23 = sK s → σc.1 6 0 24 = sB s → okBs s → frW σ σc → RR 132 14 [some rMo, some (.inl (nI (0 + 121 * m))), some (.inl x2), l3] [] σc (fun r σ' => r = none ∧ frW σ σ' ∧ σ'.1 6 0 23 = sK (bsF (mp S.1 m) n key s) ∧ σ'.1 6 0 24 = sB (bsF (mp S.1 m) n key s)) := by
    intro n
    induction n with
    | zero =>
      intro key s σc x2 l3 hk hx2 h23 h24 hs hf
      refine G_if rfl (fun q => ?_) (fun q => ?_)
      · exact G_ret rfl ⟨rfl, hf, h23, h24⟩
      · rw [hx2] at q
        have := nle (a := 100) q (by decide) (by omega)
        omega
    | succ n ih =>
      intro key s σc x2 l3 hk hx2 h23 h24 hs hf
      have hMc := hM.w hf
      have hI := hMc.1.at hm
      have hVp := hV.pl (key := key) (v := 0) (by omega) (by decide)
      have hlk : lkW (mp S.1 m) key < 1000000 := alF_lt hVp.1.t
      have no : ¬ ((mp S.1 m).1 < 40 ∧ ¬ has (mp S.1 m) key) → RR 132 128 [some rMo, some (.inl (nI (0 + 121 * m))), some (.inl x2), l3] [] σc (fun r σ' => r = none ∧ frW σ σ' ∧ σ'.1 6 0 23 = sK (bsF (mp S.1 m) (n + 1) key s) ∧ σ'.1 6 0 24 = sB (bsF (mp S.1 m) (n + 1) key s)) := by
        intro h4
        rw [show bsF (mp S.1 m) (n + 1) key s = bsF (mp S.1 m) n (key + 1) s from by
          show bsF _ n (key + 1) (gt _ _ _) = _
          rw [gt_f h4]]
        refine G_to [14] rfl ?_
        exact ih (key + 1) s σc _ _ (by omega) (by rw [hx2, nI_1]) h23 h24 hs hf
      refine G_if rfl (fun q => ?_) (fun q => ?_)
      · rw [hx2] at q
        have := ile (a := 100) q (by decide) (by omega)
        omega
      · refine G_ald rfl (0 + 121 * m) rfl (by omega) (by decide) ?_
        rw [hI.1]
        refine G_if rfl (fun q2 => ?_) (fun q2 => ?_)
        · have q2 := ile (a := 40) q2 (by decide) (by omega)
          exact no (fun e => by omega)
        · have q2 : (mp S.1 m).1 < 40 := nle (a := 40) q2 (by decide) (by omega)
          refine G_callv rfl (by rw [hx2]) (ev_find_21 hI hV.1 (by omega) (key := key) (by omega)) ?_
          rintro r1 σ1 ⟨rfl, ⟨hh, rfl⟩ | ⟨hh, rfl⟩⟩
          · have hlt := hh.1
            refine G_if rfl (fun q3 => ?_) (fun q3 => absurd (Classical.not_not.mp q3) (no9 (by omega)))
            exact no (fun e => e.2 hh)
          · refine G_if rfl (fun q3 => absurd rfl q3) (fun q3 => ?_)
            rw [show bsF (mp S.1 m) (n + 1) key s = bsF (mp S.1 m) n (key + 1) (upS s key (lkW (mp S.1 m) key)) from by
              show bsF _ n (key + 1) (gt _ _ _) = _
              rw [gt_t ⟨q2, hh⟩]]
            refine G_call rfl (ev_begin hMc.1 hS.1.sz) ?_
            rintro r1 σ2 ⟨rfl, i2, f2⟩
            refine G_callv rfl (by rw [hx2, show (0 : Int32) = nI 0 from rfl]) (ev_goNew_22 (i2.at hm) hV.1 hV.low (by omega) q2 (v := 0) (key := key) (by omega)) ?_
            rintro r1 σ3 ⟨rfl, f3, i3⟩
            have i3 : isP σ3 22 (0 + 121 * m) (plM (mp S.1 m) key 0) := by
              unfold plM
              rw [gt_f hh, gt_t q2]
              exact i3
            refine G_call rfl (ev_pallLooks_22 i3 hVp.1 (by omega)) ?_
            rintro r1 σ4 ⟨rfl, f4⟩
            have e23 : σ4.1 6 0 23 = sK s := by rw [f4.2.1 23 (by decide), f3.2.1 23 (by decide), f2.2.1 23 (by decide), h23]
            have e24 : σ4.1 6 0 24 = sB s := by rw [f4.2.1 24 (by decide), f3.2.1 24 (by decide), f2.2.1 24 (by decide), h24]
            have hf4 : frW σ σ4 := hf.tr ((f2.tr (f3.t.tr f4.t)).w)
            rw [all_looks hVp.1]
            show RR 132 _ [_, _, _, _] [.inl (nI (lkW (mp S.1 m) key))] _ _
            have second : ∀ (v23 : Int32), v23 = sK (upS s key (lkW (mp S.1 m) key)) → RR 132 99 [some rMo, some (.inl (nI (0 + 121 * m))), some (.inl x2), some (.inl (nI (lkW (mp S.1 m) key)))] [] (hset σ4.1 6 0 23 v23, σ4.2) (fun r σ' => r = none ∧ frW σ σ' ∧ σ'.1 6 0 23 = sK (bsF (mp S.1 m) n (key + 1) (upS s key (lkW (mp S.1 m) key))) ∧ σ'.1 6 0 24 = sB (bsF (mp S.1 m) n (key + 1) (upS s key (lkW (mp S.1 m) key)))) := by
              intro v23 hv
              have e24' : (hset σ4.1 6 0 23 v23) 6 0 24 = sB s := e24
              have fin : ∀ v24 : Int32, v24 = sB (upS s key (lkW (mp S.1 m) key)) → RR 132 128 [some rMo, some (.inl (nI (0 + 121 * m))), some (.inl x2), some (.inl (nI (lkW (mp S.1 m) key)))] [] (hset (hset σ4.1 6 0 23 v23) 6 0 24 v24, σ4.2) (fun r σ' => r = none ∧ frW σ σ' ∧ σ'.1 6 0 23 = sK (bsF (mp S.1 m) n (key + 1) (upS s key (lkW (mp S.1 m) key))) ∧ σ'.1 6 0 24 = sB (bsF (mp S.1 m) n (key + 1) (upS s key (lkW (mp S.1 m) key)))) := by
                intro v24 hv4
                refine G_to [14] rfl ?_
                exact ih (key + 1) _ _ _ _ (by omega) (by rw [hx2, nI_1]) hv hv4 (hs.up (by omega) hlk) ((hf4.x (by decide)).x (by decide))
              cases s with
              | none =>
                refine G_if rfl (fun q4 => ?_) (fun q4 => absurd e24' q4)
                refine G_to [128] rfl ?_
                exact fin _ rfl
              | some p =>
                have hp := hs p rfl
                refine G_if rfl (fun q4 => ?_) (fun q4 => ?_)
                · exact absurd (e24'.symm.trans q4) (no9 (by omega))
                · refine G_if rfl (fun q5 => ?_) (fun q5 => ?_)
                  · rw [show (hset σ4.1 6 0 23 v23, σ4.2).1 6 0 24 = _ from e24'] at q5
                    have q5 := ile q5 (by omega) (by omega)
                    refine G_to [128] rfl ?_
                    refine fin _ ?_
                    rw [show upS (some p) key (lkW (mp S.1 m) key) = some p from if_neg (by omega)]
                    exact e24'
                  · rw [show (hset σ4.1 6 0 23 v23, σ4.2).1 6 0 24 = _ from e24'] at q5
                    have q5 := nle q5 (by omega) (by omega)
                    refine G_to [128] rfl ?_
                    refine fin _ ?_
                    rw [show upS (some p) key (lkW (mp S.1 m) key) = some (key, lkW (mp S.1 m) key) from if_pos q5]
                    rfl
            cases s with
            | none =>
              refine G_if rfl (fun q4 => ?_) (fun q4 => absurd e24 q4)
              refine G_to [99] rfl ?_
              exact second _ hx2
            | some p =>
              have hp := hs p rfl
              refine G_if rfl (fun q4 => ?_) (fun q4 => ?_)
              · exact absurd (e24.symm.trans q4) (no9 (by omega))
              · refine G_if rfl (fun q5 => ?_) (fun q5 => ?_)
                · rw [e24] at q5
                  have q5 := ile q5 (by omega) (by omega)
                  refine G_to [99] rfl ?_
                  refine second _ ?_
                  rw [show upS (some p) key (lkW (mp S.1 m) key) = some p from if_neg (by omega)]
                  exact e23
                · rw [e24] at q5
                  have q5 := nle q5 (by omega) (by omega)
                  refine G_to [99] rfl ?_
                  refine second _ ?_
                  rw [show upS (some p) key (lkW (mp S.1 m) key) = some (key, lkW (mp S.1 m) key) from if_pos q5]
                  exact hx2
  refine G_to [14] rfl ?_
  exact loop 100 0 none _ _ _ rfl nI_0.symm rfl rfl (fun p hp => by cases hp) (((frW.rf σ).x (by decide)).x (by decide))
theorem m_best {S : SS} (hS : SI S) (x w : Int32) : MSpec 131 [.inl x, .inl w] S (.inl (fBest S x w)) S := by
  intro σ hM
  unfold fBest
  have hM0 := hM.scr (frS.th σ)
  have hc0 := (frS.th σ).c
  refine G_call rfl (ev_noMap x _) ?_
  rintro r1 σ1 ⟨rfl, ⟨a1, a2, rfl⟩ | ⟨h1, rfl⟩⟩
  · have h1 : okM x := i01'.mp ⟨a1, a2⟩
    refine G_if rfl (fun q => ?_) (fun q => ?_)
    · have hg : okM x := h1
      rw [gt_t hg]
      obtain ⟨m, hm, rfl⟩ := okM_nat h1
      rw [nI_clamp (by omega)]
      refine G_call rfl (ev_inI w 0 1 _) ?_
      rintro r1 σ5 ⟨rfl, ⟨g1, rfl⟩ | ⟨g1, rfl⟩⟩
      · have hu : okM w := i01'.mp g1
        rw [gt_t hu]
        refine G_if rfl (fun q3 => ?_) (fun q3 => absurd (by decide) q3)
        refine G_callv rfl (by rw [mb121]) (ev_findBest hM0 hS hm) ?_
        rintro r1 σ6 ⟨rfl, f6, h23, h24⟩
        unfold fBestN
        refine G_if rfl (fun q4 => ?_) (fun q4 => ?_)
        · rw [gt_f q4]
          exact G_ret rfl ⟨by rw [h24], hM0.w f6, hc0.tr f6.c⟩
        · rw [gt_t (Classical.not_not.mp q4)]
          exact G_ret rfl ⟨by rw [h23], hM0.w f6, hc0.tr f6.c⟩
      · have hu : ¬ okM w := fun e => g1 (i01'.mpr e)
        rw [gt_f hu]
        refine G_if rfl (fun q3 => absurd rfl q3) (fun q3 => ?_)
        exact G_ret rfl ⟨rfl, hM0, hc0⟩
    · exact absurd rfl q
  · have h1 : ¬ okM x := fun q => h1 (i01'.mpr q)
    refine G_if rfl (fun q => ?_) (fun q => ?_)
    · exact absurd q (by decide)
    · have hg : ¬ (okM x) := fun q => h1 q
      rw [gt_f hg]
      exact G_ret rfl ⟨rfl, hM0, hc0⟩
