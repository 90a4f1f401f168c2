/-! about, item, span, near. Laid by wip/whole/mk52.py. -/
section RU
variable {y pc pc' nxt : Nat} {ls ls' : Lc} {stk stk' r : List PV} {σ σ' : Hp} {Q Q' : Option PV → Hp → Prop}
theorem G_swk (k : Nat) {x : Int32} {lo hi : Int} {sw : List Nat} {a : Nat} (h : gsw y pc ls stk σ = some ((x, (lo, hi), sw, a, r), ls', σ')) (hx : x = nI k) (hl : lo = 0) (hkh : (k : Int) ≤ hi) (hk2 : k < 2147483648) (t : Nat) (ht : sw.getD k a = t) (kk : RR y t ls' r σ' Q) : RR y pc ls stk σ Q := by
  refine G_sw h ?_
  rw [swT_in (i := k) (by rw [hx, hl, nI_toInt hk2]; omega) (by omega), ht]
  exact kk
theorem G_swd {x : Int32} {lo hi : Int} {sw : List Nat} {a : Nat} (h : gsw y pc ls stk σ = some ((x, (lo, hi), sw, a, r), ls', σ')) (hx : x.toInt < lo ∨ hi < x.toInt) (kk : RR y a ls' r σ' Q) : RR y pc ls stk σ Q := by
  refine G_sw h ?_
  rw [swT_out hx]
  exact kk
end RU
noncomputable def swF (w : Int32) (f : Nat → Int32) : Int32 := gt (0 ≤ w) (f w.toNatClampNeg) (-2)
theorem swF_n {w : Int32} {f : Nat → Int32} (h : w < 0) : swF w f = -2 := gt_f (Int32.not_le.mpr h)
theorem swF_k {k : Nat} {f : Nat → Int32} (h : k < 2147483648) : swF (nI k) f = f k := by
  unfold swF
  rw [gt_t (nI_pos' h), nI_clamp h]
theorem sgn (w : Int32) : w < 0 ∨ ∃ k, k < 2147483648 ∧ w = nI k := by
  by_cases h : w < 0
  · exact Or.inl h
  · obtain ⟨k, hk, e⟩ := nI_of h
    exact Or.inr ⟨k, hk, e⟩
theorem fa_le_trans {a b c : Int32} (h : a ≤ b) (h2 : b ≤ c) : a ≤ c := Int32.le_trans h h2
theorem neg_i {w : Int32} (h : w < 0) : w.toInt < 0 := Int32.lt_iff_toInt_lt.mp h
noncomputable def abF (M : AM) (k : Nat) : Int32 := match k with
  | 0 => nI M.1
  | 1 => nI (topF M.2.2.2 M.1)
  | 2 => nI (hsF M.2.2.2 M.1 0 0)
  | 3 => gt (M.1 = 0) (-9) (nI (M.2.1 0))
  | 4 => gt (M.1 = 0) (-9) (nI (M.2.1 (M.1 - 1)))
  | 5 => nI (alF M.2.2.2 M.1)
  | _ => -2
noncomputable def fAbout (S : SS) (x w : Int32) : Int32 := gt (okM x) (swF w (abF (mp S.1 x.toNatClampNeg))) (-1)
def itF (M : AM) (i k : Nat) : Int32 := match k with
  | 0 => nI (M.2.1 i)
  | 1 => nI (M.2.2.1 i)
  | 2 => nI (M.2.2.2 i)
  | _ => -2
noncomputable def fItem (S : SS) (x i w : Int32) : Int32 := gt (okM x) (gt (0 ≤ i ∧ i < nI (mp S.1 x.toNatClampNeg).1) (swF w (itF (mp S.1 x.toNatClampNeg) i.toNatClampNeg)) (-1)) (-1)
noncomputable def fSpan (S : SS) (x k l : Int32) : Int32 := gt (okM x ∧ okK k) (gt (has (mp S.1 x.toNatClampNeg) k.toNatClampNeg) (gt (0 ≤ l ∧ l ≤ nI ((mp S.1 x.toNatClampNeg).2.2.2 (les (mp S.1 x.toNatClampNeg) k.toNatClampNeg))) (nI (bhF (mp S.1 x.toNatClampNeg).1 (mp S.1 x.toNatClampNeg).2.2.2 l.toNatClampNeg (les (mp S.1 x.toNatClampNeg) k.toNatClampNeg + 1) - les (mp S.1 x.toNatClampNeg) k.toNatClampNeg)) (-2)) (-3)) (-1)
/-- the key at one place less; -9 if there is none -/
noncomputable def kyF (M : AM) (q : Nat) : Int32 := gt (0 < q ∧ q ≤ M.1) (nI (M.2.1 (q - 1))) (-9)
noncomputable def fNear (S : SS) (x k u : Int32) : Int32 := gt (okM x ∧ okK k) (gt (okM u) (gt (u = 1) (kyF (mp S.1 x.toNatClampNeg) (les (mp S.1 x.toNatClampNeg) k.toNatClampNeg + 1)) (kyF (mp S.1 x.toNatClampNeg) (les (mp S.1 x.toNatClampNeg) (k.toNatClampNeg + 1)))) (-2)) (-1)
theorem ev_keyAt {σ : Hp} {j : Nat} {M : AM} (hI : isI σ j M) (hn : M.1 ≤ 40) (q : Nat) (hq : q < 2147483648) : Ev 28 [rI j, .inl (nI q - 1)] σ (fun r σ' => r = some (.inl (kyF M q)) ∧ σ' = σ) := by
  unfold kyF
  by_cases h : 0 < q ∧ q ≤ M.1
  · rw [gt_t h]
    exact ev_keyAt_in hI hn (i := q - 1) (lm1 h.1) (by omega)
  · rw [gt_f h]
    refine ev_keyAt_out hI ?_
    rcases Nat.eq_zero_or_pos q with e | e
    · subst e
      exact Or.inl (by decide)
    · rw [lm1 e]
      exact Or.inr (nI_le (by omega) (by omega))
theorem c_about {S : SS} (hS : SI S) (x w : Int32) : CSpec 52 [.inl x, .inl w] S (.inl (fAbout S x w)) S := by
  intro σ hC
  unfold fAbout
  refine G_call rfl (ev_isMap x _) ?_
  rintro r1 σ1 ⟨rfl, ⟨h1, rfl⟩ | ⟨h1, rfl⟩⟩
  · refine G_if rfl (fun q => ?_) (fun q => ?_)
    · have hg : okM x := h1
      rw [gt_t hg]
      obtain ⟨m, hm, rfl⟩ := okM_nat h1
      rw [nI_clamp (by omega)]
      have hI := hC.1.at hm
      have hV := hS.1.at hm
      have hn := hV.1.1
      refine G_call rfl (ev_of 0 hm σ1) ?_
      rintro r1 σ2 ⟨rfl, rfl⟩
      rcases sgn w with hw | ⟨k, hk, rfl⟩
      · rw [swF_n hw]
        exact G_swd rfl (Or.inl (neg_i hw)) (G_ret rfl ⟨rfl, hC, mEq.rf _⟩)
      rw [swF_k hk]
      match k, hk with
      | 0, _ =>
        refine G_swk 0 rfl rfl rfl (by decide) (by decide) 56 rfl ?_
        exact G_ret rfl ⟨by rw [hI.1]; rfl, hC, mEq.rf _⟩
      | 1, _ =>
        refine G_swk 1 rfl rfl rfl (by decide) (by decide) 61 rfl ?_
        refine G_call rfl (ev_top hI hV.1.t) ?_
        rintro r1 σ3 ⟨rfl, rfl⟩
        exact G_ret rfl ⟨rfl, hC, mEq.rf _⟩
      | 2, _ =>
        refine G_swk 2 rfl rfl rfl (by decide) (by decide) 66 rfl ?_
        refine G_call rfl (ev_allHeights hI hV.1) ?_
        rintro r1 σ3 ⟨rfl, rfl⟩
        exact G_ret rfl ⟨rfl, hC, mEq.rf _⟩
      | 3, _ =>
        refine G_swk 3 rfl rfl rfl (by decide) (by decide) 71 rfl ?_
        refine G_callv rfl (by rw [show (0 : Int32) = nI 1 - 1 from rfl]) (ev_keyAt hI hn 1 (by decide)) ?_
        rintro r1 σ3 ⟨rfl, rfl⟩
        refine G_ret rfl ⟨?_, hC, mEq.rf _⟩
        show some (Sum.inl (kyF (mp S.1 m) 1)) = some (Sum.inl (gt ((mp S.1 m).1 = 0) (-9) (nI ((mp S.1 m).2.1 0))))
        unfold kyF
        by_cases e : (mp S.1 m).1 = 0
        · rw [gt_t e, gt_f (by omega)]
        · rw [gt_f e, gt_t (by omega)]
      | 4, _ =>
        refine G_swk 4 rfl rfl rfl (by decide) (by decide) 77 rfl ?_
        refine G_callv rfl (by rw [hI.1]) (ev_keyAt hI hn (mp S.1 m).1 (by omega)) ?_
        rintro r1 σ3 ⟨rfl, rfl⟩
        refine G_ret rfl ⟨?_, hC, mEq.rf _⟩
        show some (Sum.inl (kyF (mp S.1 m) (mp S.1 m).1)) = some (Sum.inl (gt ((mp S.1 m).1 = 0) (-9) (nI ((mp S.1 m).2.1 ((mp S.1 m).1 - 1)))))
        unfold kyF
        by_cases e : (mp S.1 m).1 = 0
        · rw [gt_t e, gt_f (by omega)]
        · rw [gt_f e, gt_t (by omega)]
      | 5, _ =>
        refine G_swk 5 rfl rfl rfl (by decide) (by decide) 88 rfl ?_
        refine G_call rfl (ev_allLooks hI hV.1.t) ?_
        rintro r1 σ3 ⟨rfl, rfl⟩
        exact G_ret rfl ⟨rfl, hC, mEq.rf _⟩
      | k + 6, hk =>
        refine G_swd rfl (Or.inr (by rw [nI_toInt hk]; omega)) ?_
        exact G_ret rfl ⟨rfl, hC, mEq.rf _⟩
    · exact absurd (by decide) q
  · refine G_if rfl (fun q => ?_) (fun q => ?_)
    · exact absurd rfl q
    · have hg : ¬ (okM x) := fun q => h1 q
      rw [gt_f hg]
      exact G_ret rfl ⟨rfl, hC, mEq.rf _⟩
theorem m_about {S : SS} (hS : SI S) (x w : Int32) : MSpec 116 [.inl x, .inl w] S (.inl (fAbout S x w)) S := by
  intro σ hM
  unfold fAbout
  have hM0 := hM.scr (frS.th σ)
  have hc0 := (frS.th σ).c
  refine G_call rfl (ev_noMap x _) ?_
  rintro r1 σ1 ⟨rfl, ⟨a1, a2, rfl⟩ | ⟨h1, rfl⟩⟩
  · have h1 : okM x := i01'.mp ⟨a1, a2⟩
    refine G_if rfl (fun q => ?_) (fun q => ?_)
    · have hg : okM x := h1
      rw [gt_t hg]
      obtain ⟨m, hm, rfl⟩ := okM_nat h1
      rw [nI_clamp (by omega)]
      have hI := hM0.1.at hm
      have hV := hS.1.at hm
      have hn := hV.1.1
      rcases sgn w with hw | ⟨k, hk, rfl⟩
      · rw [swF_n hw]
        exact G_swd rfl (Or.inl (neg_i hw)) (G_ret rfl ⟨rfl, hM0, hc0⟩)
      rw [swF_k hk]
      match k, hk with
      | 0, _ =>
        refine G_swk 0 rfl rfl rfl (by decide) (by decide) 60 rfl ?_
        refine G_ald rfl (0 + 121 * m) (mb121 m) (by omega) (by decide) ?_
        exact G_ret rfl ⟨by rw [hI.1]; rfl, hM0, hc0⟩
      | 1, _ =>
        refine G_swk 1 rfl rfl rfl (by decide) (by decide) 67 rfl ?_
        refine G_callv rfl (by rw [mb121]) (ev_ptop_21 hI hV.1.t (by omega)) ?_
        rintro r1 σ3 ⟨rfl, rfl⟩
        exact G_ret rfl ⟨rfl, hM0, hc0⟩
      | 2, _ =>
        refine G_swk 2 rfl rfl rfl (by decide) (by decide) 76 rfl ?_
        refine G_callv rfl (by rw [mb121]) (ev_heights_21 hI hV.1.t (by omega)) ?_
        rintro r1 σ3 ⟨rfl, rfl⟩
        exact G_ret rfl ⟨rfl, hM0, hc0⟩
      | 3, _ =>
        refine G_swk 3 rfl rfl rfl (by decide) (by decide) 85 rfl ?_
        refine G_ald rfl (0 + 121 * m) (mb121 m) (by omega) (by decide) ?_
        rw [hI.1]
        show RR _ _ _ _ _ (fun q σ' => q = some (Sum.inl (gt ((mp S.1 m).1 = 0) (-9) (nI ((mp S.1 m).2.1 0)))) ∧ _)
        refine G_if rfl (fun q3 => ?_) (fun q3 => ?_)
        · have e : ¬ (mp S.1 m).1 = 0 := fun e => q3 (by rw [e]; rfl)
          rw [gt_f e]
          refine G_ald rfl (0 + 121 * m + 1) (by rw [mb121, nI_1]) (by omega) (by decide) ?_
          have := (hI.2 0 (by omega)).1
          exact G_ret rfl ⟨by rw [show 0 + 121 * m + 1 = 0 + 121 * m + 1 + 0 from rfl, this], hM0, hc0⟩
        · have e : (mp S.1 m).1 = 0 := ieq (b := 0) (Classical.not_not.mp q3) (by omega) (by decide)
          rw [gt_t e]
          exact G_ret rfl ⟨rfl, hM0, hc0⟩
      | 4, _ =>
        refine G_swk 4 rfl rfl rfl (by decide) (by decide) 108 rfl ?_
        refine G_ald rfl (0 + 121 * m) (mb121 m) (by omega) (by decide) ?_
        rw [hI.1]
        show RR _ _ _ _ _ (fun q σ' => q = some (Sum.inl (gt ((mp S.1 m).1 = 0) (-9) (nI ((mp S.1 m).2.1 ((mp S.1 m).1 - 1))))) ∧ _)
        refine G_if rfl (fun q3 => ?_) (fun q3 => ?_)
        · have e : ¬ (mp S.1 m).1 = 0 := fun e => q3 (by rw [e]; rfl)
          rw [gt_f e]
          refine G_ald rfl (0 + 121 * m) (mb121 m) (by omega) (by decide) ?_
          rw [hI.1]
          refine G_ald rfl (0 + 121 * m + 1 + ((mp S.1 m).1 - 1)) (by
            rw [mb121, nI_1, nI_add, lm1 (by omega)]
            congr 1
            omega) (by omega) (by decide) ?_
          have := (hI.2 ((mp S.1 m).1 - 1) (by omega)).1
          exact G_ret rfl ⟨by rw [this], hM0, hc0⟩
        · have e : (mp S.1 m).1 = 0 := ieq (b := 0) (Classical.not_not.mp q3) (by omega) (by decide)
          rw [gt_t e]
          exact G_ret rfl ⟨rfl, hM0, hc0⟩
      | 5, _ =>
        refine G_swk 5 rfl rfl rfl (by decide) (by decide) 140 rfl ?_
        refine G_callv rfl (by rw [mb121]) (ev_pallLooks_21 hI hV.1 (by omega)) ?_
        rintro r1 σ3 ⟨rfl, f3⟩
        exact G_ret rfl ⟨by rw [all_looks hV.1]; rfl, hM0.scr f3, hc0.tr f3.c⟩
      | k + 6, hk =>
        refine G_swd rfl (Or.inr (by rw [nI_toInt hk]; omega)) ?_
        exact G_ret rfl ⟨rfl, hM0, hc0⟩
    · exact absurd rfl q
  · have h1 : ¬ okM x := fun q => h1 (i01'.mpr q)
    refine G_if rfl (fun q => ?_) (fun q => ?_)
    · exact absurd q (by decide)
    · have hg : ¬ (okM x) := fun q => h1 q
      rw [gt_f hg]
      exact G_ret rfl ⟨rfl, hM0, hc0⟩
theorem c_item {S : SS} (hS : SI S) (x i w : Int32) : CSpec 53 [.inl x, .inl i, .inl w] S (.inl (fItem S x i w)) S := by
  intro σ hC
  unfold fItem
  refine G_call rfl (ev_isMap x _) ?_
  rintro r1 σ1 ⟨rfl, ⟨h1, rfl⟩ | ⟨h1, rfl⟩⟩
  · refine G_if rfl (fun q => ?_) (fun q => ?_)
    · have hg : okM x := h1
      rw [gt_t hg]
      obtain ⟨m, hm, rfl⟩ := okM_nat h1
      rw [nI_clamp (by omega)]
      have hI := hC.1.at hm
      have hV := hS.1.at hm
      have hn := hV.1.1
      refine G_call rfl (ev_of 0 hm σ1) ?_
      rintro r1 σ2 ⟨rfl, rfl⟩
      refine G_if rfl (fun q1 => ?_) (fun q1 => ?_)
      · rw [gt_f (fun e => absurd q1 (Int32.not_lt.mpr e.1))]
        exact G_ret rfl ⟨rfl, hC, mEq.rf _⟩
      refine G_if rfl (fun q2 => ?_) (fun q2 => ?_)
      · rw [hI.1] at q2
        rw [gt_t ⟨Int32.not_lt.mp q1, q2⟩]
        obtain ⟨i, hi, rfl⟩ := nI_of q1
        have q2 := ilt q2 (by omega) (by omega)
        rw [nI_clamp (by omega)]
        obtain ⟨a1, a2, a3⟩ := hI.2 i q2
        rcases sgn w with hw | ⟨k, hk, rfl⟩
        · rw [swF_n hw]
          exact G_swd rfl (Or.inl (neg_i hw)) (G_ret rfl ⟨rfl, hC, mEq.rf _⟩)
        rw [swF_k hk]
        match k, hk with
        | 0, _ =>
          refine G_swk 0 rfl rfl rfl (by decide) (by decide) 60 rfl ?_
          refine G_ald rfl i rfl (by omega) (by decide) ?_
          exact G_ret rfl ⟨by rw [a1]; rfl, hC, mEq.rf _⟩
        | 1, _ =>
          refine G_swk 1 rfl rfl rfl (by decide) (by decide) 68 rfl ?_
          refine G_ald rfl i rfl (by omega) (by decide) ?_
          exact G_ret rfl ⟨by rw [a2]; rfl, hC, mEq.rf _⟩
        | 2, _ =>
          refine G_swk 2 rfl rfl rfl (by decide) (by decide) 76 rfl ?_
          refine G_ald rfl i rfl (by omega) (by decide) ?_
          exact G_ret rfl ⟨by rw [a3]; rfl, hC, mEq.rf _⟩
        | k + 3, hk =>
          refine G_swd rfl (Or.inr (by rw [nI_toInt hk]; omega)) ?_
          exact G_ret rfl ⟨rfl, hC, mEq.rf _⟩
      · rw [hI.1] at q2
        rw [gt_f (fun e => q2 e.2)]
        exact G_ret rfl ⟨rfl, hC, mEq.rf _⟩
    · exact absurd (by decide) q
  · refine G_if rfl (fun q => ?_) (fun q => ?_)
    · exact absurd rfl q
    · have hg : ¬ (okM x) := fun q => h1 q
      rw [gt_f hg]
      exact G_ret rfl ⟨rfl, hC, mEq.rf _⟩
theorem m_item {S : SS} (hS : SI S) (x i w : Int32) : MSpec 121 [.inl x, .inl i, .inl w] S (.inl (fItem S x i w)) S := by
  intro σ hM
  unfold fItem
  have hM0 := hM.scr (frS.th σ)
  have hc0 := (frS.th σ).c
  refine G_call rfl (ev_noMap x _) ?_
  rintro r1 σ1 ⟨rfl, ⟨a1, a2, rfl⟩ | ⟨h1, rfl⟩⟩
  · have h1 : okM x := i01'.mp ⟨a1, a2⟩
    refine G_if rfl (fun q => absurd rfl q) (fun q => ?_)
    rw [gt_t h1]
    obtain ⟨m, hm, rfl⟩ := okM_nat h1
    rw [nI_clamp (by omega)]
    have hI := hM0.1.at hm
    have hV := hS.1.at hm
    have hn := hV.1.1
    refine G_ald rfl (0 + 121 * m) (mb121 m) (by omega) (by decide) ?_
    rw [hI.1]
    refine G_call rfl (ev_inI i 0 _ _) ?_
    rintro r1 σ2 ⟨rfl, ⟨g1, rfl⟩ | ⟨g1, rfl⟩⟩
    · refine G_if rfl (fun q1 => ?_) (fun q1 => absurd (by decide) q1)
      obtain ⟨i, hi, rfl⟩ := nI_of (Int32.not_lt.mpr g1.1)
      have q2 : i < (mp S.1 m).1 := by
        rcases Nat.eq_zero_or_pos (mp S.1 m).1 with e | e
        · rw [e] at g1
          exact absurd (fa_le_trans g1.1 g1.2) (by decide)
        · have g2 := g1.2
          rw [lm1 e] at g2
          have := ile g2 (by omega) (by omega)
          omega
      rw [gt_t ⟨g1.1, nI_lt q2 (by omega)⟩, nI_clamp (by omega)]
      obtain ⟨a1, a2, a3⟩ := hI.2 i q2
      rcases sgn w with hw | ⟨k, hk, rfl⟩
      · rw [swF_n hw]
        exact G_swd rfl (Or.inl (neg_i hw)) (G_ret rfl ⟨rfl, hM0, hc0⟩)
      rw [swF_k hk]
      match k, hk with
      | 0, _ =>
        refine G_swk 0 rfl rfl rfl (by decide) (by decide) 68 rfl ?_
        refine G_ald rfl (0 + 121 * m + 1 + i) (by rw [mb121]; exact ix1 _ _) (by omega) (by decide) ?_
        exact G_ret rfl ⟨by rw [a1]; rfl, hM0, hc0⟩
      | 1, _ =>
        refine G_swk 1 rfl rfl rfl (by decide) (by decide) 80 rfl ?_
        refine G_ald rfl (0 + 121 * m + 41 + i) (by rw [mb121]; exact ix41 _ _) (by omega) (by decide) ?_
        exact G_ret rfl ⟨by rw [a2]; rfl, hM0, hc0⟩
      | 2, _ =>
        refine G_swk 2 rfl rfl rfl (by decide) (by decide) 93 rfl ?_
        refine G_ald rfl (0 + 121 * m + 81 + i) (by rw [mb121]; exact ix81 _ _) (by omega) (by decide) ?_
        exact G_ret rfl ⟨by rw [a3]; rfl, hM0, hc0⟩
      | k + 3, hk =>
        refine G_swd rfl (Or.inr (by rw [nI_toInt hk]; omega)) ?_
        exact G_ret rfl ⟨rfl, hM0, hc0⟩
    · refine G_if rfl (fun q1 => absurd rfl q1) (fun q1 => ?_)
      rw [gt_f (fun e => g1 ⟨e.1, by
        obtain ⟨i, hi, rfl⟩ := nI_of (Int32.not_lt.mpr e.1)
        have e2 := ilt e.2 (by omega) (by omega)
        rw [lm1 (by omega)]
        exact nI_le (by omega) (by omega)⟩)]
      exact G_ret rfl ⟨rfl, hM0, hc0⟩
  · have h1 : ¬ okM x := fun q => h1 (i01'.mpr q)
    refine G_if rfl (fun q => ?_) (fun q => absurd (by decide) q)
    rw [gt_f h1]
    exact G_ret rfl ⟨rfl, hM0, hc0⟩
theorem c_span {S : SS} (hS : SI S) (x k l : Int32) : CSpec 55 [.inl x, .inl k, .inl l] S (.inl (fSpan S x k l)) S := by
  intro σ hC
  unfold fSpan
  refine G_call rfl (ev_isMap x _) ?_
  rintro r1 σ1 ⟨rfl, ⟨h1, rfl⟩ | ⟨h1, rfl⟩⟩
  · refine G_if rfl (fun q => ?_) (fun q => ?_)
    · exact absurd q (by decide)
    · refine G_call rfl (ev_isKey k _) ?_
      rintro r1 σ2 ⟨rfl, ⟨h2, rfl⟩ | ⟨h2, rfl⟩⟩
      · refine G_if rfl (fun q => ?_) (fun q => ?_)
        · have hg : okM x ∧ okK k := ⟨h1, h2⟩
          rw [gt_t hg]
          obtain ⟨m, hm, rfl⟩ := okM_nat h1
          obtain ⟨key, hk, rfl⟩ := h2
          rw [nI_clamp (by omega), nI_clamp (by omega)]
          have hI := hC.1.at hm
          have hV := hS.1.at hm
          have hn := hV.1.1
          refine G_call rfl (ev_of 0 hm σ2) ?_
          rintro r1 σ3 ⟨rfl, rfl⟩
          refine G_call rfl (ev_indexOf hI hV.1 (key := key) (by omega)) ?_
          rintro r1 σ4 ⟨rfl, ⟨hh, rfl⟩ | ⟨hh, rfl⟩⟩
          · have hlt := hh.1
            have hT := (hV.1.2.1 _ hlt).2.2
            rw [gt_t hh]
            refine G_if rfl (fun q3 => ?_) (fun q3 => absurd (nI_pos' (by omega)) q3)
            refine G_if rfl (fun q4 => ?_) (fun q4 => ?_)
            · rw [gt_f (fun e => absurd q4 (Int32.not_lt.mpr e.1))]
              exact G_ret rfl ⟨rfl, hC, mEq.rf _⟩
            refine G_ald rfl (les (mp S.1 m) key) rfl (by omega) (by decide) ?_
            rw [(hI.2 _ hlt).2.2]
            refine G_if rfl (fun q5 => ?_) (fun q5 => ?_)
            · rw [gt_t ⟨Int32.not_lt.mp q4, q5⟩]
              obtain ⟨lv, hlv, rfl⟩ := nI_of q4
              rw [nI_clamp (by omega)]
              have hb := bhF_le (mp S.1 m).2.2.2 lv (n := (mp S.1 m).1) (p := les (mp S.1 m) key + 1) (by omega)
              refine G_callv rfl (by rw [nI_1]) (ev_behind hI hV.1.t (p := les (mp S.1 m) key + 1) (by omega) (l := lv) (by omega)) ?_
              rintro r1 σ5 ⟨rfl, rfl⟩
              exact G_ret rfl ⟨by rw [pk_sub (by omega)], hC, mEq.rf _⟩
            · rw [gt_f (fun e => q5 e.2)]
              exact G_ret rfl ⟨rfl, hC, mEq.rf _⟩
          · rw [gt_f hh]
            refine G_if rfl (fun q3 => absurd q3 (by decide)) (fun q3 => ?_)
            exact G_ret rfl ⟨rfl, hC, mEq.rf _⟩
        · exact absurd (by decide) q
      · refine G_if rfl (fun q => ?_) (fun q => ?_)
        · exact absurd rfl q
        · have hg : ¬ (okM x ∧ okK k) := fun q => h2 q.2
          rw [gt_f hg]
          exact G_ret rfl ⟨rfl, hC, mEq.rf _⟩
  · refine G_if rfl (fun q => ?_) (fun q => ?_)
    · have hg : ¬ (okM x ∧ okK k) := fun q => h1 q.1
      rw [gt_f hg]
      exact G_ret rfl ⟨rfl, hC, mEq.rf _⟩
    · exact absurd rfl q
theorem m_span {S : SS} (hS : SI S) (x k l : Int32) : MSpec 123 [.inl x, .inl k, .inl l] S (.inl (fSpan S x k l)) S := by
  intro σ hM
  unfold fSpan
  have hM0 := hM.scr (frS.th σ)
  have hc0 := (frS.th σ).c
  refine G_call rfl (ev_noMap x _) ?_
  rintro r1 σ1 ⟨rfl, ⟨a1, a2, rfl⟩ | ⟨h1, rfl⟩⟩
  · have h1 : okM x := i01'.mp ⟨a1, a2⟩
    refine G_if rfl (fun q => ?_) (fun q => ?_)
    · exact absurd rfl q
    · refine G_call rfl (ev_noKey k _) ?_
      rintro r1 σ2 ⟨rfl, ⟨a1, a2, rfl⟩ | ⟨h2, rfl⟩⟩
      · have h2 : okK k := i100'.mp ⟨a1, a2⟩
        refine G_if rfl (fun q => ?_) (fun q => ?_)
        · have hg : okM x ∧ okK k := ⟨h1, h2⟩
          rw [gt_t hg]
          obtain ⟨m, hm, rfl⟩ := okM_nat h1
          obtain ⟨key, hk, rfl⟩ := h2
          rw [nI_clamp (by omega), nI_clamp (by omega)]
          have hI := hM0.1.at hm
          have hV := hS.1.at hm
          have hn := hV.1.1
          refine G_callv rfl (by rw [mb121]) (ev_find_21 hI hV.1 (by omega) (key := key) (by omega)) ?_
          rintro r1 σ4 ⟨rfl, ⟨hh, rfl⟩ | ⟨hh, rfl⟩⟩
          · have hlt := hh.1
            have hT := (hV.1.2.1 _ hlt).2.2
            rw [gt_t hh]
            refine G_if rfl (fun q3 => ?_) (fun q3 => absurd (Classical.not_not.mp q3) (no9 (by omega)))
            refine G_ald rfl (0 + 121 * m + 81 + les (mp S.1 m) key) (by rw [mb121]; exact ix81 _ _) (by omega) (by decide) ?_
            rw [(hI.2 _ hlt).2.2]
            refine G_call rfl (ev_inI l 0 _ _) ?_
            rintro r1 σ5 ⟨rfl, ⟨g1, rfl⟩ | ⟨g1, rfl⟩⟩
            · refine G_if rfl (fun q5 => absurd q5 (by decide)) (fun q5 => ?_)
              rw [gt_t g1]
              obtain ⟨lv, hlv, rfl⟩ := nI_of (Int32.not_lt.mpr g1.1)
              rw [nI_clamp (by omega)]
              have hb := bhF_le (mp S.1 m).2.2.2 lv (n := (mp S.1 m).1) (p := les (mp S.1 m) key + 1) (by omega)
              refine G_callv rfl (by rw [mb121, nI_1]) (ev_nextOn_21 hI hV.1.t (by omega) (f := les (mp S.1 m) key + 1) (by omega) (l := lv) (by omega)) ?_
              rintro r1 σ5 ⟨rfl, rfl⟩
              exact G_ret rfl ⟨by rw [pk_sub (by omega)], hM0, hc0⟩
            · refine G_if rfl (fun q5 => ?_) (fun q5 => absurd rfl q5)
              rw [gt_f g1]
              exact G_ret rfl ⟨rfl, hM0, hc0⟩
          · rw [gt_f hh]
            refine G_if rfl (fun q3 => absurd rfl q3) (fun q3 => ?_)
            exact G_ret rfl ⟨rfl, hM0, hc0⟩
        · exact absurd rfl q
      · have h2 : ¬ okK k := fun q => h2 (i100'.mpr q)
        refine G_if rfl (fun q => ?_) (fun q => ?_)
        · exact absurd q (by decide)
        · have hg : ¬ (okM x ∧ okK k) := fun q => h2 q.2
          rw [gt_f hg]
          exact G_ret rfl ⟨rfl, hM0, hc0⟩
  · have h1 : ¬ okM x := fun q => h1 (i01'.mpr q)
    refine G_if rfl (fun q => ?_) (fun q => ?_)
    · have hg : ¬ (okM x ∧ okK k) := fun q => h1 q.1
      rw [gt_f hg]
      exact G_ret rfl ⟨rfl, hM0, hc0⟩
    · exact absurd (by decide) q
theorem c_near {S : SS} (hS : SI S) (x k u : Int32) : CSpec 57 [.inl x, .inl k, .inl u] S (.inl (fNear S x k u)) S := by
  intro σ hC
  unfold fNear
  refine G_call rfl (ev_isMap x _) ?_
  rintro r1 σ1 ⟨rfl, ⟨h1, rfl⟩ | ⟨h1, rfl⟩⟩
  · refine G_if rfl (fun q => ?_) (fun q => ?_)
    · exact absurd q (by decide)
    · refine G_call rfl (ev_isKey k _) ?_
      rintro r1 σ2 ⟨rfl, ⟨h2, rfl⟩ | ⟨h2, rfl⟩⟩
      · refine G_if rfl (fun q => ?_) (fun q => ?_)
        · have hg : okM x ∧ okK k := ⟨h1, h2⟩
          rw [gt_t hg]
          obtain ⟨m, hm, rfl⟩ := okM_nat h1
          obtain ⟨key, hk, rfl⟩ := h2
          rw [nI_clamp (by omega), nI_clamp (by omega)]
          have hI := hC.1.at hm
          have hV := hS.1.at hm
          have hn := hV.1.1
          have hle := les_le (mp S.1 m) key
          have fin : okM u → RR 57 28 [some rT, some (.inl (nI m)), some (.inl (nI key)), some (.inl u), none, none] [] σ2 (fun q σ' => q = some (.inl (gt (u = 1) (kyF (mp S.1 m) (les (mp S.1 m) key + 1)) (kyF (mp S.1 m) (les (mp S.1 m) (key + 1))))) ∧ CS σ' S ∧ mEq σ2 σ') := by
            intro hu
            have at1 : RR 57 60 [some rT, some (.inl (nI m)), some (.inl (nI key)), some (.inl u), some (rI (2 * 0 + m)), some (.inl (nI (les (mp S.1 m) key)))] [] σ2 (fun q σ' => q = some (.inl (kyF (mp S.1 m) (les (mp S.1 m) key + 1))) ∧ CS σ' S ∧ mEq σ2 σ') := by
              refine G_callv rfl (by rw [← nI_pred]) (ev_keyAt hI hn (les (mp S.1 m) key + 1) (by omega)) ?_
              rintro r1 σ5 ⟨rfl, rfl⟩
              exact G_ret rfl ⟨rfl, hC, mEq.rf _⟩
            refine G_call rfl (ev_of 0 hm σ2) ?_
            rintro r1 σ3 ⟨rfl, rfl⟩
            refine G_call rfl (ev_lesser hI hV.1 (key := key) (by omega)) ?_
            rintro r1 σ4 ⟨rfl, rfl⟩
            refine G_if rfl (fun q3 => ?_) (fun q3 => ?_)
            · rw [gt_t q3]
              exact at1
            · rw [gt_f q3]
              refine G_call rfl (ev_indexOf hI hV.1 (key := key) (by omega)) ?_
              rintro r1 σ5 ⟨rfl, ⟨hh, rfl⟩ | ⟨hh, rfl⟩⟩
              · have hlt := hh.1
                refine G_if rfl (fun q4 => absurd q4 (nI_pos (by omega))) (fun q4 => ?_)
                rw [les_has hV.1 hh]
                exact at1
              · refine G_if rfl (fun q4 => ?_) (fun q4 => absurd (by decide) q4)
                rw [les_no hV.1 hh]
                refine G_call rfl (ev_keyAt hI hn (les (mp S.1 m) key) (by omega)) ?_
                rintro r1 σ6 ⟨rfl, rfl⟩
                exact G_ret rfl ⟨rfl, hC, mEq.rf _⟩
          refine G_if rfl (fun q3 => ?_) (fun q3 => ?_)
          · have hu : okM u := Or.inl q3
            rw [gt_t hu]
            exact fin hu
          refine G_if rfl (fun q4 => ?_) (fun q4 => ?_)
          · have hu : okM u := Or.inr q4
            rw [gt_t hu]
            exact fin hu
          · rw [gt_f (fun e => e.elim q3 q4)]
            exact G_ret rfl ⟨rfl, hC, mEq.rf _⟩
        · exact absurd (by decide) q
      · refine G_if rfl (fun q => ?_) (fun q => ?_)
        · exact absurd rfl q
        · have hg : ¬ (okM x ∧ okK k) := fun q => h2 q.2
          rw [gt_f hg]
          exact G_ret rfl ⟨rfl, hC, mEq.rf _⟩
  · refine G_if rfl (fun q => ?_) (fun q => ?_)
    · have hg : ¬ (okM x ∧ okK k) := fun q => h1 q.1
      rw [gt_f hg]
      exact G_ret rfl ⟨rfl, hC, mEq.rf _⟩
    · exact absurd rfl q
theorem m_near {S : SS} (hS : SI S) (x k u : Int32) : MSpec 125 [.inl x, .inl k, .inl u] S (.inl (fNear S x k u)) S := by
  intro σ hM
  unfold fNear
  have hM0 := hM.scr (frS.th σ)
  have hc0 := (frS.th σ).c
  refine G_call rfl (ev_noMap x _) ?_
  rintro r1 σ1 ⟨rfl, ⟨a1, a2, rfl⟩ | ⟨h1, rfl⟩⟩
  · have h1 : okM x := i01'.mp ⟨a1, a2⟩
    refine G_if rfl (fun q => ?_) (fun q => ?_)
    · exact absurd rfl q
    · refine G_call rfl (ev_noKey k _) ?_
      rintro r1 σ2 ⟨rfl, ⟨a1, a2, rfl⟩ | ⟨h2, rfl⟩⟩
      · have h2 : okK k := i100'.mp ⟨a1, a2⟩
        refine G_if rfl (fun q => ?_) (fun q => ?_)
        · have hg : okM x ∧ okK k := ⟨h1, h2⟩
          rw [gt_t hg]
          obtain ⟨m, hm, rfl⟩ := okM_nat h1
          obtain ⟨key, hk, rfl⟩ := h2
          rw [nI_clamp (by omega), nI_clamp (by omega)]
          have hI := hM0.1.at hm
          have hV := hS.1.at hm
          have hn := hV.1.1
          have hle := les_le (mp S.1 m) key
          have hle2 := les_le (mp S.1 m) (key + 1)
          have fin : ∀ (z : Nat), z < 100 → RR 125 72 [some rMo, some (.inl (nI m)), some (.inl (nI key)), some (.inl u), some (.inl (nI (0 + 121 * m))), none] [.inl (nI z - 1)] (hset σ.1 6 0 0 0, σ.2) (fun q σ' => q = some (.inl (kyF (mp S.1 m) z)) ∧ MS σ' S ∧ cEq σ σ') := by
            intro z hz
            unfold kyF
            refine G_ald rfl (0 + 121 * m) rfl (by omega) (by decide) ?_
            rw [hI.1]
            refine G_call rfl (ev_inI _ 0 _ _) ?_
            rintro r1 σ5 ⟨rfl, ⟨g1, rfl⟩ | ⟨g1, rfl⟩⟩
            · have hz0 : 0 < z := by
                rcases Nat.eq_zero_or_pos z with e | e
                · rw [e] at g1
                  exact absurd g1.1 (by decide)
                · exact e
              have hz1 : z ≤ (mp S.1 m).1 := by
                have g2 := g1.2
                rcases Nat.eq_zero_or_pos (mp S.1 m).1 with e | e
                · rw [e, lm1 hz0] at g2
                  exact absurd (fa_le_trans (nI_pos' (n := z - 1) (by omega)) g2) (by decide)
                · rw [lm1 e, lm1 hz0] at g2
                  have := ile g2 (by omega) (by omega)
                  omega
              rw [gt_t ⟨hz0, hz1⟩]
              refine G_if rfl (fun q5 => absurd q5 (by decide)) (fun q5 => ?_)
              refine G_ald rfl (0 + 121 * m + 1 + (z - 1)) (by rw [lm1 hz0]; exact ix1 _ _) (by omega) (by decide) ?_
              rw [(hI.2 (z - 1) (by omega)).1]
              exact G_ret rfl ⟨rfl, hM0, hc0⟩
            · rw [gt_f (fun e => g1 ⟨by rw [lm1 e.1]; exact nI_pos' (by omega), by rw [lm1 e.1, lm1 (show 1 ≤ (mp S.1 m).1 by omega)]; exact nI_le (by omega) (by omega)⟩)]
              refine G_if rfl (fun q5 => ?_) (fun q5 => absurd rfl q5)
              exact G_ret rfl ⟨rfl, hM0, hc0⟩
          refine G_call rfl (ev_inI u 0 1 _) ?_
          rintro r1 σ5 ⟨rfl, ⟨g1, rfl⟩ | ⟨g1, rfl⟩⟩
          · have hu : okM u := i01'.mp g1
            rw [gt_t hu]
            refine G_if rfl (fun q3 => ?_) (fun q3 => absurd (by decide) q3)
            refine G_if rfl (fun q4 => ?_) (fun q4 => ?_)
            · rw [gt_f q4]
              refine G_callv rfl (by rw [mb121, nI_1]) (ev_plesser_21 hI hV.1 (by omega) (key := key + 1) (by omega)) ?_
              rintro r1 σ4 ⟨rfl, rfl⟩
              refine G_to [72] rfl ?_
              rw [mb121]
              exact fin (les (mp S.1 m) (key + 1)) (by omega)
            · rw [gt_t (Classical.not_not.mp q4)]
              refine G_callv rfl (by rw [mb121]) (ev_plesser_21 hI hV.1 (by omega) (key := key) (by omega)) ?_
              rintro r1 σ4 ⟨rfl, rfl⟩
              refine G_to [72] rfl ?_
              rw [mb121]
              have := fin (les (mp S.1 m) key + 1) (by omega)
              rw [nI_pred] at this
              exact this
          · have hu : ¬ okM u := fun e => g1 (i01'.mpr e)
            rw [gt_f hu]
            refine G_if rfl (fun q3 => absurd rfl q3) (fun q3 => ?_)
            exact G_ret rfl ⟨rfl, hM0, hc0⟩
        · exact absurd rfl q
      · have h2 : ¬ okK k := fun q => h2 (i100'.mpr q)
        refine G_if rfl (fun q => ?_) (fun q => ?_)
        · exact absurd q (by decide)
        · have hg : ¬ (okM x ∧ okK k) := fun q => h2 q.2
          rw [gt_f hg]
          exact G_ret rfl ⟨rfl, hM0, hc0⟩
  · have h1 : ¬ okM x := fun q => h1 (i01'.mpr q)
    refine G_if rfl (fun q => ?_) (fun q => ?_)
    · have hg : ¬ (okM x ∧ okK k) := fun q => h1 q.1
      rw [gt_f hg]
      exact G_ret rfl ⟨rfl, hM0, hc0⟩
    · exact absurd (by decide) q
