/-! Trials; would. Laid by wip/whole/mk57.py. -/
theorem CS.tr {σ σ' : Hp} {S : SS} {m : Nat} (h : CS σ S) (hf : frI (2 * 1 + m) σ σ') (hm : m < 2) : CS σ' S := h.now (B := S.1) (hf.n (by omega)) ⟨hf.is (by omega) h.1.1, hf.is (by omega) h.1.2⟩
theorem ev_tryOn {σ : Hp} {S : SS} (hC : CS σ S) (hS : SI S) {m : Nat} (hm : m < 2) : Ev 61 [rT, .inl (nI m)] σ (fun r σ' => r = some (rI (2 * 1 + m)) ∧ isI σ' (2 * 1 + m) (mp S.1 m) ∧ frI (2 * 1 + m) σ σ') := by
  refine G_call rfl (ev_of 1 hm σ) ?_
  rintro r1 σ1 ⟨rfl, rfl⟩
  refine G_call rfl (ev_of 0 hm σ1) ?_
  rintro r1 σ2 ⟨rfl, rfl⟩
  refine G_call rfl (ev_copyFrom (j := 2 * 1 + m) (hC.1.at hm) (hS.1.at hm).1.1 (by omega)) ?_
  rintro r1 σ3 ⟨rfl, h1, f1⟩
  exact G_ret rfl ⟨rfl, h1, f1⟩
theorem ev_otherHeights {σ : Hp} {j j2 : Nat} {M M2 : AM} (hI : isI σ j M) (hw : wfM M) (hI2 : isI σ j2 M2) (hw2 : wfM M2) {but : Nat} (hb : but < 100) : Ev 32 [rI j, rI j2, .inl (nI but)] σ (fun r σ' => r = some (.inl (nI (ohF M M2 but M.1 0 0))) ∧ σ' = σ) := by
  have hn := hw.1
  have hn2 := hw2.1
  have loop : ∀ (m i s : Nat) (x3 x4 : Int32) (l5 : Option PV), x3 = nI s → x4 = nI i → i + m = M.1 → RR 32 5 [some (rI j), some (rI j2), some (.inl (nI but)), some (.inl x3), some (.inl x4), l5] [] σ (fun r σ' => r = some (.inl (nI (ohF M M2 but m i s))) ∧ σ' = σ) := by
    intro m
    induction m with
    | zero =>
      intro i s x3 x4 l5 hx3 hx4 hi
      refine G_if rfl (fun h => ?_) (fun h => ?_)
      · exact G_ret rfl ⟨by rw [hx3]; rfl, rfl⟩
      · rw [hI.1, hx4] at h
        exact absurd (nle h (by omega) (by omega)) (by omega)
    | succ m ih =>
      intro i s x3 x4 l5 hx3 hx4 hi
      have hK := (hw.2.1 i (by omega)).1
      have hT := (hw.2.1 i (by omega)).2.2
      rw [ohF]
      have no : ∀ l5 : Option PV, ¬ (M.2.1 i ≠ but ∧ has M2 (M.2.1 i) ∧ M2.2.2.2 (les M2 (M.2.1 i)) ≠ M.2.2.2 i) → RR 32 63 [some (rI j), some (rI j2), some (.inl (nI but)), some (.inl x3), some (.inl x4), l5] [] σ (fun r σ' => r = some (.inl (nI (ohF M M2 but m (i + 1) (@ite _ (M.2.1 i ≠ but ∧ has M2 (M.2.1 i) ∧ M2.2.2.2 (les M2 (M.2.1 i)) ≠ M.2.2.2 i) (Classical.propDecidable _) (s + 1) s)))) ∧ σ' = σ) := by
        intro l5 hno
        rw [if_neg hno]
        refine G_to [5] rfl ?_
        exact ih (i + 1) s _ _ _ hx3 (by rw [hx4]; exact nI_1 i) (by omega)
      refine G_if rfl (fun h => ?_) (fun h => ?_)
      · rw [hI.1, hx4] at h
        exact absurd (ile h (by omega) (by omega)) (by omega)
      · refine G_ald rfl i hx4 (by omega) (by decide) ?_
        rw [(hI.2 i (by omega)).1]
        refine G_call rfl (ev_indexOf hI2 hw2 (key := M.2.1 i) (by omega)) ?_
        rintro r1 σ1 ⟨rfl, ⟨hh, rfl⟩ | ⟨hh, rfl⟩⟩
        · have hlt := hh.1
          have hT2 := (hw2.2.1 _ hlt).2.2
          refine G_ald rfl i hx4 (by omega) (by decide) ?_
          rw [(hI.2 i (by omega)).1]
          refine G_if rfl (fun h2 => ?_) (fun h2 => ?_)
          · have h2 := ieq h2 (by omega) (by omega)
            exact no _ (fun q => q.1 h2)
          · refine G_if rfl (fun h3 => absurd h3 (nI_pos (by omega))) (fun h3 => ?_)
            refine G_ald rfl (les M2 (M.2.1 i)) rfl (by omega) (by decide) ?_
            rw [(hI2.2 _ hlt).2.2]
            refine G_ald rfl i hx4 (by omega) (by decide) ?_
            rw [(hI.2 i (by omega)).2.2]
            refine G_if rfl (fun h4 => ?_) (fun h4 => ?_)
            · have h4 := ieq h4 (by omega) (by omega)
              exact no _ (fun q => q.2.2 h4)
            · rw [if_pos ⟨fun e => h2 (by rw [e]), hh, fun e => h4 (by rw [e])⟩]
              refine G_to [5] rfl ?_
              exact ih (i + 1) (s + 1) _ _ _ (by rw [hx3]; exact nI_1 s) (by rw [hx4]; exact nI_1 i) (by omega)
        · refine G_ald rfl i hx4 (by omega) (by decide) ?_
          rw [(hI.2 i (by omega)).1]
          refine G_if rfl (fun h2 => ?_) (fun h2 => ?_)
          · exact no _ (fun q => hh q.2.1)
          · refine G_if rfl (fun h3 => ?_) (fun h3 => absurd (by decide) h3)
            exact no _ (fun q => hh q.2.1)
  refine G_to [5] rfl ?_
  exact loop M.1 0 0 _ _ _ nI_0.symm nI_0.symm (by omega)
theorem ev_motherHeights {σ : Hp} {mb : Nat} {M M2 : AM} (hm : mb + 121 ≤ 242) (hI : isP σ 21 mb M) (hw : wfM M) (hI2 : isP σ 22 mb M2) (hw2 : wfM M2) {but : Nat} (hb : but < 100) : Ev 130 [rMo, .inl (nI mb), .inl (nI but)] σ (fun r σ' => r = some (.inl (nI (ohF M M2 but M.1 0 0))) ∧ σ' = σ) := by
  have hn := hw.1
  have hn2 := hw2.1
  have loop : ∀ (m i s : Nat) (x3 x4 : Int32) (l5 l6 : Option PV), x3 = nI s → x4 = nI i → i + m = M.1 → RR 130 5 [some rMo, some (.inl (nI mb)), some (.inl (nI but)), some (.inl x3), some (.inl x4), l5, l6] [] σ (fun r σ' => r = some (.inl (nI (ohF M M2 but m i s))) ∧ σ' = σ) := by
    intro m
    induction m with
    | zero =>
      intro i s x3 x4 l5 l6 hx3 hx4 hi
      refine G_ald rfl mb rfl (by omega) (by decide) ?_
      rw [hI.1]
      refine G_if rfl (fun h => ?_) (fun h => ?_)
      · exact G_ret rfl ⟨by rw [hx3]; rfl, rfl⟩
      · rw [hx4] at h
        exact absurd (nle h (by omega) (by omega)) (by omega)
    | succ m ih =>
      intro i s x3 x4 l5 l6 hx3 hx4 hi
      have hK := (hw.2.1 i (by omega)).1
      have hT := (hw.2.1 i (by omega)).2.2
      rw [ohF]
      have no : ∀ l5 l6 : Option PV, ¬ (M.2.1 i ≠ but ∧ has M2 (M.2.1 i) ∧ M2.2.2.2 (les M2 (M.2.1 i)) ≠ M.2.2.2 i) → RR 130 86 [some rMo, some (.inl (nI mb)), some (.inl (nI but)), some (.inl x3), some (.inl x4), l5, l6] [.inl x3] σ (fun r σ' => r = some (.inl (nI (ohF M M2 but m (i + 1) (@ite _ (M.2.1 i ≠ but ∧ has M2 (M.2.1 i) ∧ M2.2.2.2 (les M2 (M.2.1 i)) ≠ M.2.2.2 i) (Classical.propDecidable _) (s + 1) s)))) ∧ σ' = σ) := by
        intro l5 l6 hno
        rw [if_neg hno]
        refine G_to [5] rfl ?_
        exact ih (i + 1) s _ _ _ _ (by rw [hx3, show (0 : Int32) = nI 0 from rfl, nI_add]; rfl) (by rw [hx4]; exact nI_1 i) (by omega)
      refine G_ald rfl mb rfl (by omega) (by decide) ?_
      rw [hI.1]
      refine G_if rfl (fun h => ?_) (fun h => ?_)
      · rw [hx4] at h
        exact absurd (ile h (by omega) (by omega)) (by omega)
      · refine G_ald rfl (mb + 1 + i) (by rw [hx4]; exact ix1 _ _) (by omega) (by decide) ?_
        rw [(hI.2 i (by omega)).1]
        refine G_call rfl (ev_find_22 hI2 hw2 hm (key := M.2.1 i) (by omega)) ?_
        rintro r1 σ1 ⟨rfl, ⟨hh, rfl⟩ | ⟨hh, rfl⟩⟩
        · have hlt := hh.1
          have hT2 := (hw2.2.1 _ hlt).2.2
          refine G_if rfl (fun h2 => ?_) (fun h2 => ?_)
          · have h2 := ieq h2 (by omega) (by omega)
            exact no _ _ (fun q => q.1 h2)
          · refine G_if rfl (fun h3 => absurd h3 (no9 (by omega))) (fun h3 => ?_)
            refine G_ald rfl (mb + 81 + les M2 (M.2.1 i)) (ix81 _ _) (by omega) (by decide) ?_
            rw [(hI2.2 _ hlt).2.2]
            refine G_ald rfl (mb + 81 + i) (by rw [hx4]; exact ix81 _ _) (by omega) (by decide) ?_
            rw [(hI.2 i (by omega)).2.2]
            refine G_if rfl (fun h4 => ?_) (fun h4 => ?_)
            · have h4 := ieq h4 (by omega) (by omega)
              exact no _ _ (fun q => q.2.2 h4)
            · rw [if_pos ⟨fun e => h2 (by rw [e]), hh, fun e => h4 (by rw [e])⟩]
              refine G_to [5] rfl ?_
              exact ih (i + 1) (s + 1) _ _ _ _ (by rw [hx3]; exact nI_1 s) (by rw [hx4]; exact nI_1 i) (by omega)
        · refine G_if rfl (fun h2 => ?_) (fun h2 => ?_)
          · exact no _ _ (fun q => hh q.2.1)
          · refine G_if rfl (fun h3 => ?_) (fun h3 => absurd rfl h3)
            exact no _ _ (fun q => hh q.2.1)
  refine G_to [5] rfl ?_
  exact loop M.1 0 0 _ _ _ _ nI_0.symm nI_0.symm (by omega)
noncomputable def wdM (M : AM) (key : Nat) : AM := gt (has M key) (toM M key) (plM M key 0)
theorem Inv.wd {M : AM} (h : Inv M) {key : Nat} (hk : key < 100) : Inv (wdM M key) := by
  unfold wdM
  by_cases h1 : has M key
  · rw [gt_t h1]; exact h.to _
  · rw [gt_f h1]; exact h.pl hk (by decide)
noncomputable def wdF (M : AM) (key w : Nat) : Int32 := match w with
  | 0 => nI (ohF M (wdM M key) key M.1 0 0)
  | 1 => nI (topF (wdM M key).2.2.2 (wdM M key).1)
  | _ => nI (alF (wdM M key).2.2.2 (wdM M key).1)
def okW (w : Int32) : Prop := ∃ k, k ≤ 2 ∧ w = nI k
noncomputable def fWould (S : SS) (x k w : Int32) : Int32 := gt (okM x ∧ okK k) (gt (okW w) (gt (can (mp S.1 x.toNatClampNeg) k.toNatClampNeg) (wdF (mp S.1 x.toNatClampNeg) k.toNatClampNeg w.toNatClampNeg) (-4)) (-2)) (-1)
theorem c_would {S : SS} (hS : SI S) (x k w : Int32) : CSpec 60 [.inl x, .inl k, .inl w] S (.inl (fWould S x k w)) S := by
  intro σ hC
  unfold fWould
  refine G_call rfl (ev_isMap x _) ?_
  rintro r1 σ1 ⟨rfl, ⟨h1, rfl⟩ | ⟨h1, rfl⟩⟩
  · refine G_if rfl (fun q => ?_) (fun q => ?_)
    · exact absurd q (by decide)
    · refine G_call rfl (ev_isKey k _) ?_
      rintro r1 σ2 ⟨rfl, ⟨h2, rfl⟩ | ⟨h2, rfl⟩⟩
      · refine G_if rfl (fun q => ?_) (fun q => ?_)
        · have hg : okM x ∧ okK k := ⟨h1, h2⟩
          rw [gt_t hg]
          have bad : ¬ okW w → RR 60 25 [some rT, some (.inl x), some (.inl k), some (.inl w), none, none] [] σ2 (fun q σ' => q = some (.inl (gt (okW w) (gt (can (mp S.1 x.toNatClampNeg) k.toNatClampNeg) (wdF (mp S.1 x.toNatClampNeg) k.toNatClampNeg w.toNatClampNeg) (-4)) (-2))) ∧ CS σ' S ∧ mEq σ2 σ') := by
            intro h
            rw [gt_f h]
            exact G_ret rfl ⟨rfl, hC, mEq.rf _⟩
          refine G_if rfl (fun q1 => ?_) (fun q1 => ?_)
          · exact bad (fun e => absurd q1 (Int32.not_lt.mpr ((irng (n := 2) (by decide)).mpr e).1))
          refine G_if rfl (fun q2 => ?_) (fun q2 => ?_)
          · have h3 : okW w := (irng (n := 2) (by decide)).mp ⟨Int32.not_lt.mp q1, q2⟩
            rw [gt_t h3]
            obtain ⟨m, hm, rfl⟩ := okM_nat h1
            obtain ⟨key, hk, rfl⟩ := h2
            obtain ⟨w, hw, rfl⟩ := h3
            rw [nI_clamp (by omega), nI_clamp (by omega), nI_clamp (by omega)]
            have hI := hC.1.at hm
            have hV := hS.1.at hm
            have hVw := hV.wd hk
            refine G_call rfl (ev_of 0 hm σ2) ?_
            rintro r1 σ3 ⟨rfl, rfl⟩
            refine G_call rfl (ev_canTake hI hV.1 (key := key) (by omega)) ?_
            rintro r1 σ4 ⟨rfl, ⟨hh, rfl⟩ | ⟨hh, rfl⟩⟩
            · refine G_if rfl (fun q3 => ?_) (fun q3 => absurd (by decide) q3)
              have hh : can (mp S.1 m) key := hh
              rw [gt_t hh]
              refine G_call rfl (ev_tryOn hC hS hm) ?_
              rintro r1 σ5 ⟨rfl, i5, f5⟩
              have fin : ∀ σ6, isI σ6 (2 * 1 + m) (wdM (mp S.1 m) key) → frI (2 * 1 + m) σ4 σ6 → RR 60 74 [some rT, some (.inl (nI m)), some (.inl (nI key)), some (.inl (nI w)), some (rI (2 * 0 + m)), some (rI (2 * 1 + m))] [] σ6 (fun q σ' => q = some (.inl (wdF (mp S.1 m) key w)) ∧ CS σ' S ∧ mEq σ4 σ') := by
                intro σ6 i6 f6
                have hC6 := hC.tr f6 hm
                match w, hw with
                | 0, _ =>
                  refine G_lk rfl 100 rfl ?_
                  refine G_call rfl (ev_otherHeights (hC6.1.at hm) hV.1 i6 hVw.1 hk) ?_
                  rintro r1 σ7 ⟨rfl, rfl⟩
                  exact G_ret rfl ⟨rfl, hC6, f6.m⟩
                | 1, _ =>
                  refine G_lk rfl 109 rfl ?_
                  refine G_call rfl (ev_top i6 hVw.1.t) ?_
                  rintro r1 σ7 ⟨rfl, rfl⟩
                  exact G_ret rfl ⟨rfl, hC6, f6.m⟩
                | 2, _ =>
                  refine G_lk rfl 115 rfl ?_
                  refine G_call rfl (ev_allLooks i6 hVw.1.t) ?_
                  rintro r1 σ7 ⟨rfl, rfl⟩
                  exact G_ret rfl ⟨rfl, hC6, f6.m⟩
              refine G_call rfl (ev_to i5 hV hk) ?_
              rintro r1 σ6 ⟨rfl, i6, f6⟩
              by_cases h4 : has (mp S.1 m) key
              · rw [show ifI (has (mp S.1 m) key) = 1 from gt_t h4]
                refine G_if rfl (fun q3 => ?_) (fun q3 => absurd (by decide) q3)
                refine fin σ6 ?_ (f5.tr f6)
                unfold wdM
                rw [gt_t h4]
                exact i6
              · rw [show ifI (has (mp S.1 m) key) = 0 from gt_f h4]
                refine G_if rfl (fun q3 => absurd rfl q3) (fun q3 => ?_)
                have i6 : isI σ6 (2 * 1 + m) (mp S.1 m) := by
                  rw [show toM (mp S.1 m) key = mp S.1 m from gt_f h4] at i6
                  exact i6
                refine G_callv rfl (by rw [show (0 : Int32) = nI 0 from rfl]) (ev_pl i6 hV hk (v := 0) (by decide)) ?_
                rintro r1 σ7 ⟨rfl, i7, f7⟩
                refine G_to [74] rfl ?_
                refine fin σ7 ?_ ((f5.tr f6).tr f7)
                unfold wdM
                rw [gt_f h4]
                exact i7
            · refine G_if rfl (fun q3 => absurd rfl q3) (fun q3 => ?_)
              have hh : ¬ can (mp S.1 m) key := hh
              rw [gt_f hh]
              exact G_ret rfl ⟨rfl, hC, mEq.rf _⟩
          · exact bad (fun e => absurd ((irng (n := 2) (by decide)).mpr e).2 q2)
        · exact absurd (by decide) q
      · refine G_if rfl (fun q => ?_) (fun q => ?_)
        · exact absurd rfl q
        · have hg : ¬ (okM x ∧ okK k) := fun q => h2 q.2
          rw [gt_f hg]
          exact G_ret rfl ⟨rfl, hC, mEq.rf _⟩
  · refine G_if rfl (fun q => ?_) (fun q => ?_)
    · have hg : ¬ (okM x ∧ okK k) := fun q => h1 q.1
      rw [gt_f hg]
      exact G_ret rfl ⟨rfl, hC, mEq.rf _⟩
    · exact absurd rfl q
theorem m_would {S : SS} (hS : SI S) (x k w : Int32) : MSpec 128 [.inl x, .inl k, .inl w] S (.inl (fWould S x k w)) S := by
  intro σ hM
  unfold fWould
  have hM0 := hM.scr (frS.th σ)
  have hc0 := (frS.th σ).c
  refine G_call rfl (ev_noMap x _) ?_
  rintro r1 σ1 ⟨rfl, ⟨a1, a2, rfl⟩ | ⟨h1, rfl⟩⟩
  · have h1 : okM x := i01'.mp ⟨a1, a2⟩
    refine G_if rfl (fun q => ?_) (fun q => ?_)
    · exact absurd rfl q
    · refine G_call rfl (ev_noKey k _) ?_
      rintro r1 σ2 ⟨rfl, ⟨a1, a2, rfl⟩ | ⟨h2, rfl⟩⟩
      · have h2 : okK k := i100'.mp ⟨a1, a2⟩
        refine G_if rfl (fun q => ?_) (fun q => ?_)
        · have hg : okM x ∧ okK k := ⟨h1, h2⟩
          rw [gt_t hg]
          refine G_call rfl (ev_inI w 0 2 _) ?_
          rintro r1 σ3 ⟨rfl, ⟨h3, rfl⟩ | ⟨h3, rfl⟩⟩
          · have h3 : okW w := (irng (n := 2) (by decide)).mp h3
            refine G_if rfl (fun q3 => ?_) (fun q3 => absurd (by decide) q3)
            rw [gt_t h3]
            obtain ⟨m, hm, rfl⟩ := okM_nat h1
            obtain ⟨key, hk, rfl⟩ := h2
            obtain ⟨w, hw, rfl⟩ := h3
            rw [nI_clamp (by omega), nI_clamp (by omega), nI_clamp (by omega)]
            have hI := hM0.1.at hm
            have hV := hS.1.at hm
            have hVw := hV.wd hk
            have hn := hV.1.1
            have fin : ∀ (σ6 : Hp) (l5 : Option PV), isP σ6 22 (0 + 121 * m) (wdM (mp S.1 m) key) → frT (hset σ.1 6 0 0 0, σ.2) σ6 → RR 128 115 [some rMo, some (.inl (nI m)), some (.inl (nI key)), some (.inl (nI w)), some (.inl (nI (0 + 121 * m))), l5] [] σ6 (fun q σ' => q = some (.inl (wdF (mp S.1 m) key w)) ∧ MS σ' S ∧ cEq σ σ') := by
              intro σ6 l5 i6 f6
              have hM6 := hM0.t f6
              match w, hw with
              | 0, _ =>
                refine G_if rfl (fun q => absurd rfl q) (fun q => ?_)
                refine G_call rfl (ev_motherHeights (by omega) (hM6.1.at hm) hV.1 i6 hVw.1 hk) ?_
                rintro r1 σ7 ⟨rfl, rfl⟩
                exact G_ret rfl ⟨rfl, hM6, hc0.tr f6.c⟩
              | 1, _ =>
                refine G_if rfl (fun q => ?_) (fun q => absurd (by decide) q)
                refine G_if rfl (fun q => absurd rfl q) (fun q => ?_)
                refine G_call rfl (ev_ptop_22 i6 hVw.1.t (by omega)) ?_
                rintro r1 σ7 ⟨rfl, rfl⟩
                exact G_ret rfl ⟨rfl, hM6, hc0.tr f6.c⟩
              | 2, _ =>
                refine G_if rfl (fun q => ?_) (fun q => absurd (by decide) q)
                refine G_if rfl (fun q => ?_) (fun q => absurd (by decide) q)
                refine G_call rfl (ev_pallLooks_22 i6 hVw.1 (by omega)) ?_
                rintro r1 σ7 ⟨rfl, f7⟩
                exact G_ret rfl ⟨by rw [all_looks hVw.1]; rfl, hM6.t f7.t, (hc0.tr f6.c).tr f7.c⟩
            refine G_callv rfl (by rw [mb121]) (ev_find_21 hI hV.1 (by omega) (key := key) (by omega)) ?_
            rintro r1 σ4 ⟨rfl, ⟨hh, rfl⟩ | ⟨hh, rfl⟩⟩
            · have hlt := hh.1
              have hc : can (mp S.1 m) key := Or.inr hh
              rw [gt_t hc]
              refine G_if rfl (fun q4 => ?_) (fun q4 => absurd (Classical.not_not.mp q4) (no9 (by omega)))
              refine G_call rfl (ev_begin hM0.1 hS.1.sz) ?_
              rintro r1 σ5 ⟨rfl, i5, f5⟩
              refine G_if rfl (fun q4 => ?_) (fun q4 => absurd (Classical.not_not.mp q4) (no9 (by omega)))
              refine G_callv rfl (by rw [mb121]) (ev_goRemove_22 (i5.at hm) hV (by omega) hlt) ?_
              rintro r1 σ6 ⟨rfl, f6, i6⟩
              refine G_to [115] rfl ?_
              rw [mb121]
              refine fin σ6 _ ?_ (f5.tr f6.t)
              unfold wdM toM
              rw [gt_t hh, gt_t hh]
              exact i6
            · refine G_if rfl (fun q4 => absurd rfl q4) (fun q4 => ?_)
              refine G_ald rfl (0 + 121 * m) (mb121 m) (by omega) (by decide) ?_
              rw [hI.1]
              refine G_if rfl (fun q5 => ?_) (fun q5 => ?_)
              · have hlt : (mp S.1 m).1 < 40 := Nat.lt_of_le_of_ne hn (fun e => q5 (by rw [e]; rfl))
                have hc : can (mp S.1 m) key := Or.inl hlt
                rw [gt_t hc]
                refine G_call rfl (ev_begin hM0.1 hS.1.sz) ?_
                rintro r1 σ5 ⟨rfl, i5, f5⟩
                refine G_if rfl (fun q4 => absurd rfl q4) (fun q4 => ?_)
                refine G_callv rfl (by rw [mb121, show (0 : Int32) = nI 0 from rfl]) (ev_goNew_22 (i5.at hm) hV.1 hV.low (by omega) hlt (v := 0) hk) ?_
                rintro r1 σ6 ⟨rfl, f6, i6⟩
                refine G_to [115] rfl ?_
                rw [mb121]
                refine fin σ6 _ ?_ (f5.tr f6.t)
                unfold wdM plM
                rw [gt_f hh, gt_f hh, gt_t hlt]
                exact i6
              · have hc : ¬ can (mp S.1 m) key := by
                  have := ieq (b := 40) (Classical.not_not.mp q5) (by omega) (by decide)
                  rintro (e | e)
                  · omega
                  · exact hh e
                rw [gt_f hc]
                exact G_ret rfl ⟨rfl, hM0, hc0⟩
          · have h3 : ¬ okW w := fun e => h3 ((irng (n := 2) (by decide)).mpr e)
            refine G_if rfl (fun q3 => absurd rfl q3) (fun q3 => ?_)
            rw [gt_f h3]
            exact G_ret rfl ⟨rfl, hM0, hc0⟩
        · exact absurd rfl q
      · have h2 : ¬ okK k := fun q => h2 (i100'.mpr q)
        refine G_if rfl (fun q => ?_) (fun q => ?_)
        · exact absurd q (by decide)
        · have hg : ¬ (okM x ∧ okK k) := fun q => h2 q.2
          rw [gt_f hg]
          exact G_ret rfl ⟨rfl, hM0, hc0⟩
  · have h1 : ¬ okM x := fun q => h1 (i01'.mpr q)
    refine G_if rfl (fun q => ?_) (fun q => ?_)
    · have hg : ¬ (okM x ∧ okK k) := fun q => h1 q.1
      rw [gt_f hg]
      exact G_ret rfl ⟨rfl, hM0, hc0⟩
    · exact absurd (by decide) q
