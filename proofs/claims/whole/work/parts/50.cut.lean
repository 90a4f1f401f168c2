/-! cut. -/
theorem les_has {M : AM} (hw : wfM M) {key : Nat} (h : has M key) : les M (key + 1) = les M key + 1 := by
  obtain ⟨h1, h2⟩ := les_spec hw key
  refine (les_uniq hw h.1 (fun i hi => ?_) (fun i hi hin => ?_)).symm
  · rcases Nat.lt_or_ge i (les M key) with q | q
    · have := h1 i q
      omega
    · rw [show i = les M key by omega, h.2]
      omega
  · have := wf_lt hw (show les M key < i by omega) hin
    rw [h.2] at this
    omega
theorem les_no {M : AM} (hw : wfM M) {key : Nat} (h : ¬ has M key) : les M (key + 1) = les M key := by
  obtain ⟨h1, h2⟩ := les_spec hw key
  refine (les_uniq hw (les_le _ _) (fun i hi => ?_) (fun i hi hin => ?_)).symm
  · have := h1 i hi
    omega
  · have q := h2 i hi hin
    rcases Nat.lt_or_eq_of_le q with q | q
    · exact q
    · exact absurd ((has_iff hw).mpr ⟨i, hin, q.symm⟩) h
theorem les_mono {M : AM} (hw : wfM M) {a b : Nat} (h : a ≤ b) : les M a ≤ les M b := by
  obtain ⟨h1, h2⟩ := les_spec hw a
  obtain ⟨h3, h4⟩ := les_spec hw b
  rcases Nat.lt_or_ge (les M b) (les M a) with q | q
  · have q1 := h1 _ q
    have q2 := h4 _ (Nat.le_refl _) (by have := les_le M a; omega)
    omega
  · exact q
theorem les_out {M : AM} (hV : Inv M) {key k' : Nat} (h : has M key) (hk : key < k') : les M k' = les (toM M key) k' + 1 := by
  have hw := hV.1
  obtain ⟨h1, h2⟩ := les_spec hw k'
  have hlt : les M key < les M k' := by
    have := les_has hw h
    have := les_mono hw (show key + 1 ≤ k' by omega)
    omega
  have hle := les_le M k'
  have hV2 := hV.out h.1
  unfold toM
  rw [gt_t h]
  have : les M k' - 1 = les (outM M (les M key)) k' := by
    refine les_uniq hV2.1 ?_ (fun i hi => ?_) (fun i hi hin => ?_)
    · show les M k' - 1 ≤ M.1 - 1
      omega
    · show (if i < les M key then M.2.1 i else M.2.1 (i + 1)) < k'
      split
      · exact h1 i (by omega)
      · exact h1 (i + 1) (by omega)
    · have hin : i < M.1 - 1 := hin
      show k' ≤ (if i < les M key then M.2.1 i else M.2.1 (i + 1))
      rw [if_neg (by omega)]
      exact h2 (i + 1) (by omega) (by omega)
  omega
noncomputable def mvF : Nat → Nat → AM → AM → AM × AM
  | 0, _, M, M2 => (M, M2)
  | n + 1, key, M, M2 => gt (has M key) (mvF n (key + 1) (toM M key) (plM M2 key (M.2.2.1 (les M key)))) (mvF n (key + 1) M M2)
theorem mvF_t {n key : Nat} {M M2 : AM} (h : has M key) : mvF (n + 1) key M M2 = mvF n (key + 1) (toM M key) (plM M2 key (M.2.2.1 (les M key))) := gt_t h
theorem mvF_f {n key : Nat} {M M2 : AM} (h : ¬ has M key) : mvF (n + 1) key M M2 = mvF n (key + 1) M M2 := gt_f h
theorem mvF_inv : ∀ (n key : Nat) (M M2 : AM), key + n ≤ 100 → Inv M → Inv M2 → Inv (mvF n key M M2).1 ∧ Inv (mvF n key M M2).2
  | 0, _, _, _, _, h1, h2 => ⟨h1, h2⟩
  | n + 1, key, M, M2, hk, h1, h2 => by
    by_cases h : has M key
    · rw [mvF_t h]
      exact mvF_inv n _ _ _ (by omega) (h1.to _) (h2.pl (by omega) (h1.1.2.1 _ h.1).2.1)
    · rw [mvF_f h]
      exact mvF_inv n _ _ _ (by omega) h1 h2
theorem ev_moveTo {σ : Hp} {j j2 : Nat} {M M2 : AM} (hj : j ≠ j2) (hj4 : j < 4 ∧ j2 < 4) (hI : isI σ j M) (hV : Inv M) (hI2 : isI σ j2 M2) (hV2 : Inv M2) {a b : Nat} (hb : b < 100) (hab : a ≤ b) : Ev 26 [rI j, rI j2, .inl (nI a), .inl (nI b)] σ (fun r σ' => r = some (.inl (nI (les M (b + 1) - les M a))) ∧ isI σ' j (mvF (b + 1 - a) a M M2).1 ∧ isI σ' j2 (mvF (b + 1 - a) a M M2).2 ∧ frN σ σ') := by
  have loop : ∀ (n key s : Nat) (Mc M2c : AM) (σc : Hp) (x4 x5 : Int32) (l6 l7 : Option PV), x4 = nI s → x5 = nI key → key + n = b + 1 → isI σc j Mc → Inv Mc → isI σc j2 M2c → Inv M2c → frN σ σc → RR 26 6 [some (rI j), some (rI j2), some (.inl (nI a)), some (.inl (nI b)), some (.inl x4), some (.inl x5), l6, l7] [] σc (fun r σ' => r = some (.inl (nI (s + (les Mc (b + 1) - les Mc key)))) ∧ isI σ' j (mvF n key Mc M2c).1 ∧ isI σ' j2 (mvF n key Mc M2c).2 ∧ frN σ σ') := by
    intro n
    induction n with
    | zero =>
      intro key s Mc M2c σc x4 x5 l6 l7 hx4 hx5 hk i1 v1 i2 v2 f1
      refine G_if rfl (fun q => ?_) (fun q => ?_)
      · refine G_ret rfl ⟨?_, i1, i2, f1⟩
        rw [hx4, show b + 1 = key by omega, Nat.sub_self]
        rfl
      · rw [hx5] at q
        have := nlt q (by omega) (by omega)
        omega
    | succ n ih =>
      intro key s Mc M2c σc x4 x5 l6 l7 hx4 hx5 hk i1 v1 i2 v2 f1
      have hn := v1.1.1
      refine G_if rfl (fun q => ?_) (fun q => ?_)
      · rw [hx5] at q
        have := ilt q (by omega) (by omega)
        omega
      · refine G_callv rfl (by rw [hx5]) (ev_indexOf i1 v1.1 (key := key) (by omega)) ?_
        rintro r1 σ1 ⟨rfl, ⟨hh, rfl⟩ | ⟨hh, rfl⟩⟩
        · have hlt := hh.1
          refine G_if rfl (fun q2 => absurd q2 (nI_pos (by omega))) (fun q2 => ?_)
          refine G_ald rfl (les Mc key) rfl (by omega) (by decide) ?_
          rw [(i1.2 _ hlt).2.1]
          refine G_callv rfl (by rw [hx5]) (ev_to i1 v1 (key := key) (by omega)) ?_
          rintro r1 σ2 ⟨rfl, i3, f3⟩
          have hv := (v1.1.2.1 _ hlt).2.1
          refine G_callv rfl (by rw [hx5]) (ev_pl (f3.is (fun e => hj e.symm) i2) v2 (key := key) (v := Mc.2.2.1 (les Mc key)) (by omega) hv) ?_
          rintro r1 σ3 ⟨rfl, i4, f4⟩
          refine G_to [6] rfl ?_
          rw [mvF_t hh]
          have e1 := les_out v1 hh (show key < b + 1 by omega)
          have e2 := les_out v1 hh (show key < key + 1 by omega)
          have e3 := les_has v1.1 hh
          rw [show s + (les Mc (b + 1) - les Mc key) = (s + 1) + (les (toM Mc key) (b + 1) - les (toM Mc key) (key + 1)) by
            have := les_mono v1.1 (show key + 1 ≤ b + 1 by omega)
            omega]
          exact ih (key + 1) (s + 1) _ _ σ3 _ _ _ _ (by rw [hx4, nI_1]) (by rw [hx5, nI_1]) (by omega) (f4.is hj i3) (v1.to _) i4 (v2.pl (by omega) hv) (f1.tr ((f3.n hj4.1).tr (f4.n hj4.2)))
        · refine G_if rfl (fun q2 => ?_) (fun q2 => absurd (by decide) q2)
          refine G_to [6] rfl ?_
          rw [mvF_f hh, ← les_no v1.1 hh]
          exact ih (key + 1) s _ _ _ _ _ _ _ hx4 (by rw [hx5, nI_1]) (by omega) i1 v1 i2 v2 f1
  refine G_to [6] rfl ?_
  have := loop (b + 1 - a) a 0 M M2 σ 0 (nI a) none none nI_0.symm rfl (by omega) hI hV hI2 hV2 (frN.rf σ)
  rw [Nat.zero_add] at this
  exact this
theorem ev_inRangeF {σ : Hp} {mb ob : Nat} {M : AM} (hI : isP σ 21 mb M) (hw : wfM M) (hm : mb + 121 ≤ 242) {a b : Nat} (ha : a < 100) (hb : b < 100) (hab : a ≤ b) : Ev 114 [rMo, .inl (nI mb), .inl (nI ob), .inl (nI a), .inl (nI b), .inl 0] σ (fun r σ' => r = some (.inl (nI (les M (b + 1) - les M a))) ∧ σ' = σ) := by
  have hn := hw.1
  have hL := les_mono hw (show a ≤ b + 1 by omega)
  have hL2 := les_le M (b + 1)
  obtain ⟨p1, p2⟩ := les_spec hw a
  obtain ⟨p3, p4⟩ := les_spec hw (b + 1)
  have loop : ∀ (n i : Nat) (x6 x7 : Int32) (l8 : Option PV), x6 = nI (min i (les M (b + 1)) - min i (les M a)) → x7 = nI i → i + n = M.1 → RR 114 6 [some rMo, some (.inl (nI mb)), some (.inl (nI ob)), some (.inl (nI a)), some (.inl (nI b)), some (.inl 0), some (.inl x6), some (.inl x7), l8] [] σ (fun r σ' => r = some (.inl (nI (les M (b + 1) - les M a))) ∧ σ' = σ) := by
    intro n
    induction n with
    | zero =>
      intro i x6 x7 l8 hx6 hx7 hi
      refine G_ald rfl mb rfl (by omega) (by decide) ?_
      rw [hI.1]
      refine G_if rfl (fun q => ?_) (fun q => ?_)
      · refine G_ret rfl ⟨?_, rfl⟩
        rw [hx6, Nat.min_eq_right (by omega), Nat.min_eq_right (by omega)]
      · rw [hx7] at q
        exact absurd (nle q (by omega) (by omega)) (by omega)
    | succ n ih =>
      intro i x6 x7 l8 hx6 hx7 hi
      have hK := (hw.2.1 i (by omega)).1
      refine G_ald rfl mb rfl (by omega) (by decide) ?_
      rw [hI.1]
      refine G_if rfl (fun q => ?_) (fun q => ?_)
      · rw [hx7] at q
        exact absurd (ile q (by omega) (by omega)) (by omega)
      · refine G_ald rfl (mb + 1 + i) (by rw [hx7]; exact ix1 _ _) (by omega) (by decide) ?_
        rw [(hI.2 i (by omega)).1]
        refine G_call rfl (ev_inI _ _ _ _) ?_
        rintro r1 σ1 ⟨rfl, ⟨⟨a1, a2⟩, rfl⟩ | ⟨a1, rfl⟩⟩
        · have a1 := ile a1 (by omega) (by omega)
          have a2 := ile a2 (by omega) (by omega)
          refine G_if rfl (fun q => absurd q (by decide)) (fun q => ?_)
          refine G_if rfl (fun q => ?_) (fun q => absurd rfl q)
          refine G_to [6] rfl ?_
          have b1 : les M a ≤ i := by
            rcases Nat.lt_or_ge i (les M a) with q | q
            · have := p1 i q
              omega
            · exact q
          have b2 : i < les M (b + 1) := by
            rcases Nat.lt_or_ge i (les M (b + 1)) with q | q
            · exact q
            · have := p4 i q (by omega)
              omega
          exact ih (i + 1) _ _ _ (by rw [hx6, nI_1]; congr 1; omega) (by rw [hx7, nI_1]) (by omega)
        · rw [nI_leI (by omega) (by omega), nI_leI (by omega) (by omega)] at a1
          refine G_if rfl (fun q => ?_) (fun q => absurd rfl q)
          refine G_to [6] rfl ?_
          have b1 : i < les M a ∨ les M (b + 1) ≤ i := by
            rcases Nat.lt_or_ge i (les M a) with q | q
            · exact Or.inl q
            · rcases Nat.lt_or_ge i (les M (b + 1)) with q2 | q2
              · have := p2 i q (by omega)
                have := p3 i q2
                omega
              · exact Or.inr q2
          exact ih (i + 1) _ _ _ (by rw [hx6, show (0 : Int32) = nI 0 from rfl, nI_add]; congr 1; omega) (by rw [hx7, nI_1]) (by omega)
  refine G_to [6] rfl ?_
  exact loop M.1 0 _ _ _ (by rw [Nat.zero_min, Nat.zero_min]; exact nI_0.symm) nI_0.symm (by omega)
theorem ev_inRangeT {σ : Hp} {mb ob : Nat} {M M2 : AM} (hI : isP σ 21 mb M) (hw : wfM M) (hm : mb + 121 ≤ 242) (hI2 : isP σ 21 ob M2) (hw2 : wfM M2) (hm2 : ob + 121 ≤ 242) {a b : Nat} (ha : a < 100) (hb : b < 100) : Ev 114 [rMo, .inl (nI mb), .inl (nI ob), .inl (nI a), .inl (nI b), .inl 1] σ (fun r σ' => r = some (.inl (nI (nwF M2 M.2.1 a b M.1 0 0))) ∧ σ' = σ) := by
  have hn := hw.1
  have hn2 := hw2.1
  have loop : ∀ (n i s : Nat) (x6 x7 : Int32) (l8 : Option PV), x6 = nI s → x7 = nI i → i + n = M.1 → RR 114 6 [some rMo, some (.inl (nI mb)), some (.inl (nI ob)), some (.inl (nI a)), some (.inl (nI b)), some (.inl 1), some (.inl x6), some (.inl x7), l8] [] σ (fun r σ' => r = some (.inl (nI (nwF M2 M.2.1 a b n i s))) ∧ σ' = σ) := by
    intro n
    induction n with
    | zero =>
      intro i s x6 x7 l8 hx6 hx7 hi
      refine G_ald rfl mb rfl (by omega) (by decide) ?_
      rw [hI.1]
      refine G_if rfl (fun q => ?_) (fun q => ?_)
      · exact G_ret rfl ⟨by rw [hx6]; rfl, rfl⟩
      · rw [hx7] at q
        exact absurd (nle q (by omega) (by omega)) (by omega)
    | succ n ih =>
      intro i s x6 x7 l8 hx6 hx7 hi
      have hK := (hw.2.1 i (by omega)).1
      refine G_ald rfl mb rfl (by omega) (by decide) ?_
      rw [hI.1]
      refine G_if rfl (fun q => ?_) (fun q => ?_)
      · rw [hx7] at q
        exact absurd (ile q (by omega) (by omega)) (by omega)
      · refine G_ald rfl (mb + 1 + i) (by rw [hx7]; exact ix1 _ _) (by omega) (by decide) ?_
        rw [(hI.2 i (by omega)).1, nwF]
        refine G_call rfl (ev_inI _ _ _ _) ?_
        rintro r1 σ1 ⟨rfl, ⟨⟨a1, a2⟩, rfl⟩ | ⟨a1, rfl⟩⟩
        · have a1 := ile a1 (by omega) (by omega)
          have a2 := ile a2 (by omega) (by omega)
          refine G_if rfl (fun q => absurd q (by decide)) (fun q => ?_)
          refine G_if rfl (fun q => absurd q (by decide)) (fun q => ?_)
          refine G_call rfl (ev_find_21 hI2 hw2 hm2 (key := M.2.1 i) (by omega)) ?_
          rintro r1 σ2 ⟨rfl, ⟨hh, rfl⟩ | ⟨hh, rfl⟩⟩
          · have hlt := hh.1
            refine G_if rfl (fun q => ?_) (fun q => absurd (Classical.not_not.mp q) (no9 (by omega)))
            rw [if_neg (fun q => q.2.2 hh)]
            refine G_to [6] rfl ?_
            exact ih (i + 1) s _ _ _ (by rw [hx6, show (0 : Int32) = nI 0 from rfl, nI_add]; rfl) (by rw [hx7, nI_1]) (by omega)
          · refine G_if rfl (fun q => absurd rfl q) (fun q => ?_)
            rw [if_pos ⟨a1, a2, hh⟩]
            refine G_to [6] rfl ?_
            exact ih (i + 1) (s + 1) _ _ _ (by rw [hx6, nI_1]) (by rw [hx7, nI_1]) (by omega)
        · rw [nI_leI (by omega) (by omega), nI_leI (by omega) (by omega)] at a1
          refine G_if rfl (fun q => ?_) (fun q => absurd rfl q)
          rw [if_neg (fun q => a1 ⟨q.1, q.2.1⟩)]
          refine G_to [6] rfl ?_
          exact ih (i + 1) s _ _ _ (by rw [hx6, show (0 : Int32) = nI 0 from rfl, nI_add]; rfl) (by rw [hx7, nI_1]) (by omega)
  refine G_to [6] rfl ?_
  exact loop M.1 0 0 _ _ _ nI_0.symm nI_0.symm (by omega)
theorem nwF_le (M' : AM) (K : Nat → Nat) (a b : Nat) : ∀ (m i s : Nat), nwF M' K a b m i s ≤ s + m
  | 0, _, _ => Nat.le_refl _
  | m + 1, i, s => by
    rw [nwF]
    have h1 := nwF_le M' K a b m (i + 1) (s + 1)
    have h2 := nwF_le M' K a b m (i + 1) s
    split <;> omega
noncomputable def roomF (M M2 : AM) (a b : Nat) : Nat := M2.1 + nwF M2 M.2.1 a b M.1 0 0
noncomputable def cutB (B : BM) (m a b : Nat) : BM := match m with
  | 0 => ((mvF (b + 1 - a) a B.1 B.2).1, (mvF (b + 1 - a) a B.1 B.2).2)
  | _ => ((mvF (b + 1 - a) a B.2 B.1).2, (mvF (b + 1 - a) a B.2 B.1).1)
noncomputable def fCutN (B : BM) (m a b : Nat) : Int32 := gt (roomF (mp B m) (mp B (1 - m)) a b ≤ 40) (nI (les (mp B m) (b + 1) - les (mp B m) a)) (-4)
noncomputable def fCut (S : SS) (x a b : Int32) : Int32 := gt (okM x ∧ okK a ∧ okK b) (gt (a ≤ b) (fCutN S.1 x.toNatClampNeg a.toNatClampNeg b.toNatClampNeg) (-2)) (-1)
noncomputable def nCutN (S : SS) (m a b : Nat) : SS := gt (roomF (mp S.1 m) (mp S.1 (1 - m)) a b ≤ 40) (cutB S.1 m a b, pushH S.2.1 S.1, S.2.2) S
noncomputable def nCut (S : SS) (x a b : Int32) : SS := gt (okM x ∧ okK a ∧ okK b) (gt (a ≤ b) (nCutN S x.toNatClampNeg a.toNatClampNeg b.toNatClampNeg) S) S
theorem cutB_inv {B : BM} (h : InvB B) {m a b : Nat} (hm : m < 2) (hb : b < 100) (hab : a ≤ b) : InvB (cutB B m a b) := by
  match m, hm with
  | 0, _ => exact mvF_inv _ _ _ _ (by omega) h.1 h.2
  | 1, _ =>
    have := mvF_inv (b + 1 - a) a B.2 B.1 (by omega) h.2 h.1
    exact ⟨this.2, this.1⟩
theorem SI.cut {S : SS} (hS : SI S) (x a b : Int32) : SI (nCut S x a b) := by
  unfold nCut
  by_cases h : okM x ∧ okK a ∧ okK b
  · rw [gt_t h]
    by_cases h2 : a ≤ b
    · rw [gt_t h2]
      obtain ⟨h0, ⟨ka, hka, rfl⟩, ⟨kb, hkb, rfl⟩⟩ := h
      obtain ⟨m, hm, rfl⟩ := okM_nat h0
      have h2 := ile h2 (by omega) (by omega)
      rw [nI_clamp (by omega), nI_clamp (by omega), nI_clamp (by omega)]
      unfold nCutN
      by_cases h3 : roomF (mp S.1 m) (mp S.1 (1 - m)) ka kb ≤ 40
      · rw [gt_t h3]
        exact hS.push.now (cutB_inv hS.1 hm hkb h2)
      · rw [gt_f h3]; exact hS
    · rw [gt_f h2]; exact hS
  · rw [gt_f h]; exact hS
theorem isB.cut {σ : Hp} {b m ka kb : Nat} {B : BM} (hm : m < 2) (h1 : isI σ (2 * b + m) (mvF (kb + 1 - ka) ka (mp B m) (mp B (1 - m))).1) (h2 : isI σ (2 * b + (1 - m)) (mvF (kb + 1 - ka) ka (mp B m) (mp B (1 - m))).2) : isB σ b (cutB B m ka kb) := by
  match m, hm with
  | 0, _ => exact ⟨h1, h2⟩
  | 1, _ => exact ⟨h2, h1⟩
theorem isPB.cut {σ : Hp} {P mb m ka kb : Nat} {B : BM} (hm : m < 2) (h1 : isP σ P (mb + 121 * m) (mvF (kb + 1 - ka) ka (mp B m) (mp B (1 - m))).1) (h2 : isP σ P (mb + 121 * (1 - m)) (mvF (kb + 1 - ka) ka (mp B m) (mp B (1 - m))).2) : isPB σ P mb (cutB B m ka kb) := by
  match m, hm with
  | 0, _ => exact ⟨h1, h2⟩
  | 1, _ => exact ⟨h2, h1⟩
