/-! The model: a key taken out. -/
section MO
variable {σ : Hp} {mb : Nat} {M : AM}
theorem ev_goRemove_21 (hI : isP σ 21 mb M) (hV : Inv M) (hm : mb + 121 ≤ 242) {p : Nat} (hp : p < M.1) : Ev 111 [rMo, rP 21, .inl (nI mb), .inl (nI p)] σ (fun r σ' => r = some (.inl (nI (M.2.2.1 p))) ∧ frP 21 mb σ σ' ∧ isP σ' 21 mb (outM M p)) := by
  have hw := hV.1
  have hn := hw.1
  have hlow := hV.low
  have htop := low_top hlow
  obtain ⟨o1, o2, o3, o4, o5⟩ := outP_ok hV.2 hp
  obtain ⟨i0, hi0, ht0⟩ := topF_at M.2.2.2 M.1 (by omega)
  generalize hxe : outP M p = x at *
  have shift : ∀ (K V T' : Nat → Nat) (m i : Nat) (x6 : Int32) (σ1 : Hp), x6 = nI (i + 1) → i + 1 + m = M.1 → x ≤ i → σ1.1 21 0 mb = nI M.1 → pD σ1 21 mb 1 M.1 i x K → pD σ1 21 mb 41 M.1 i x V → pD σ1 21 mb 81 M.1 i x T' → frP 21 mb σ σ1 →
      RR 111 132 [some rMo, some (rP 21), some (.inl (nI mb)), some (.inl (nI p)), some (.inl (nI (M.2.2.1 p))), some (.inl (nI x)), some (.inl x6)] [] σ1 (fun r σ' => r = some (.inl (nI (M.2.2.1 p))) ∧ frP 21 mb σ σ' ∧ isP σ' 21 mb (M.1 - 1, delF K x, delF V x, delF T' x)) := by
    intro K V T' m
    induction m with
    | zero =>
      intro i x6 σ1 hx6 hi hxi hs h1 h41 h81 hf
      refine G_ald rfl mb rfl (by omega) (by decide) ?_
      rw [hs]
      refine G_if rfl (fun q => ?_) (fun q => ?_)
      · refine G_ald rfl mb rfl (by omega) (by decide) ?_
        refine G_ast rfl mb rfl (by omega) (by decide) ?_
        rw [hs, lm1 (by omega)]
        refine G_ret rfl ⟨rfl, hf.st (by decide) (by omega), ?_, fun y hy => ?_⟩
        · show hset σ1.1 21 0 mb (nI (M.1 - 1)) 21 0 mb = _
          unfold hset
          rw [if_pos ⟨rfl, rfl, rfl⟩]
        · have hy : y < M.1 - 1 := hy
          show hset σ1.1 21 0 mb (nI (M.1 - 1)) 21 0 (mb + 1 + y) = _ ∧ hset σ1.1 21 0 mb (nI (M.1 - 1)) 21 0 (mb + 41 + y) = _ ∧ hset σ1.1 21 0 mb (nI (M.1 - 1)) 21 0 (mb + 81 + y) = _
          unfold hset
          rw [if_neg (by omega), if_neg (by omega), if_neg (by omega)]
          exact ⟨h1.1 y (by omega), h41.1 y (by omega), h81.1 y (by omega)⟩
      · rw [hx6] at q
        exact absurd (nle q (by omega) (by omega)) (by omega)
    | succ m ih =>
      intro i x6 σ1 hx6 hi hxi hs h1 h41 h81 hf
      refine G_ald rfl mb rfl (by omega) (by decide) ?_
      rw [hs]
      refine G_if rfl (fun q => ?_) (fun q => ?_)
      · rw [hx6] at q
        exact absurd (ile q (by omega) (by omega)) (by omega)
      · refine G_callv rfl (by rw [hx6, nI_pred]) (ev_move_21 (σ := σ1) hm (t := i) (f := i + 1) (by omega) (by omega)) ?_
        rintro r1 σ2 ⟨rfl, hf2, hmb, hxx⟩
        refine G_to [132] rfl ?_
        refine ih (i + 1) _ σ2 (by rw [hx6]; exact nI_1 _) (by omega) (by omega) (by rw [hmb]; exact hs) ⟨fun y hy => ?_, fun y hy hy2 => ?_⟩ ⟨fun y hy => ?_, fun y hy hy2 => ?_⟩ ⟨fun y hy => ?_, fun y hy hy2 => ?_⟩ (hf.tr hf2)
        · rw [(hxx y (by omega)).1]
          by_cases hyy : y = i
          · rw [if_pos hyy, hyy, delF, if_neg (by omega)]
            exact h1.2 _ (by omega) (by omega)
          · rw [if_neg hyy]
            exact h1.1 y (by omega)
        · rw [(hxx y (by omega)).1, if_neg (by omega)]
          exact h1.2 y (by omega) hy2
        · rw [(hxx y (by omega)).2.1]
          by_cases hyy : y = i
          · rw [if_pos hyy, hyy, delF, if_neg (by omega)]
            exact h41.2 _ (by omega) (by omega)
          · rw [if_neg hyy]
            exact h41.1 y (by omega)
        · rw [(hxx y (by omega)).2.1, if_neg (by omega)]
          exact h41.2 y (by omega) hy2
        · rw [(hxx y (by omega)).2.2]
          by_cases hyy : y = i
          · rw [if_pos hyy, hyy, delF, if_neg (by omega)]
            exact h81.2 _ (by omega) (by omega)
          · rw [if_neg hyy]
            exact h81.1 y (by omega)
        · rw [(hxx y (by omega)).2.2, if_neg (by omega)]
          exact h81.2 y (by omega) hy2
  have hdl : ∀ (f : Nat → Nat) (y : Nat), y < x → delF f x y = f y := fun f y hy => by simp [delF, hy]
  have lev : ∀ (K V : Nat → Nat) (l : Nat) (x6 : Int32) (σ1 : Hp) (T : Nat → Nat), x6 = nI l → l ≤ 40 → (∀ i, i < M.1 → T i ≤ 40) → LB M.1 T → T x = 0 → (l = 0 ∨ ∃ i, i < M.1 ∧ l ≤ T i) → J2 M.1 T x (l + 1) → isP σ1 21 mb (M.1, K, V, T) → frP 21 mb σ σ1 →
      RR 111 70 [some rMo, some (rP 21), some (.inl (nI mb)), some (.inl (nI p)), some (.inl (nI (M.2.2.1 p))), some (.inl (nI x)), some (.inl x6)] [] σ1 (fun r σ' => r = some (.inl (nI (M.2.2.1 p))) ∧ frP 21 mb σ σ' ∧ isP σ' 21 mb (M.1 - 1, delF K x, delF V x, delF (helpL M.1 x l T) x)) := by
    intro K V l
    induction l with
    | zero =>
      intro x6 σ1 T hx6 hl hT hLB hTx hex hJ hI1 hf
      refine G_if rfl (fun q => ?_) (fun q => ?_)
      · refine G_to [132] rfl ?_
        exact shift K V T (M.1 - (x + 1)) x _ σ1 (nI_1 x) (by omega) (Nat.le_refl _) hI1.1 ⟨fun y hy => by rw [hdl _ _ hy]; exact (hI1.2 y (by show y < M.1; omega)).1, fun y h1 h2 => (hI1.2 y h2).1⟩ ⟨fun y hy => by rw [hdl _ _ hy]; exact (hI1.2 y (by show y < M.1; omega)).2.1, fun y h1 h2 => (hI1.2 y h2).2.1⟩ ⟨fun y hy => by rw [hdl _ _ hy]; exact (hI1.2 y (by show y < M.1; omega)).2.2, fun y h1 h2 => (hI1.2 y h2).2.2⟩ hf
      · exact absurd (by rw [hx6]; exact nI_le (Nat.le_refl 0) (by decide)) q
    | succ l ih =>
      intro x6 σ1 T hx6 hl hT hLB hTx hex hJ hI1 hf
      have hw1 : wfT (M.1, K, V, T) := ⟨hw.1, fun i hi => by have := hT i hi; show T i < 64; omega⟩
      have hex' : ∃ i, i < M.1 ∧ l + 1 ≤ T i := by
        rcases hex with q | q
        · omega
        · exact q
      obtain ⟨s1, s2, s3, s4, s5⟩ := help_step hLB (by omega) o1 hTx hex' hJ
      have ha := ahF_le T (l + 1) x
      have hb := bhF_le T (l + 1) (Nat.le_of_lt o1)
      have hc := cntF_le T l (bhF M.1 T (l + 1) x - ahF T (l + 1) x) (ahF T (l + 1) x)
      refine G_if rfl (fun q => ?_) (fun q => ?_)
      · rw [hx6] at q
        exact absurd (ile (b := 0) q (by omega) (by decide)) (by omega)
      · refine G_callv rfl (by rw [hx6, nI_1]) (ev_layGap_21 hI1 hw1 hm (l := l + 1) (q := x) (f := x + 1) (by omega) (by show x ≤ M.1; omega) (by show x + 1 ≤ M.1; omega)) ?_
        rintro r1 σ2 ⟨rfl, hf2, h21, h22⟩
        have h22 : σ2.1 6 0 22 = nI (bhF M.1 T (l + 1) x) := by
          rw [h22]
          show nI (bhF M.1 T (l + 1) (x + 1)) = _
          rw [bhF_skip o1 (by omega)]
        have hI2 := hf2.is (by decide) hI1
        refine G_callv rfl (by rw [h21, h22, hx6, nI_pred]) (ev_between_21 hI2 hw1 hm (a := ahF T (l + 1) x) (b := bhF M.1 T (l + 1) x) (h := l) hb.2 (by show ahF T (l + 1) x ≤ M.1; omega) (by omega)) ?_
        rintro r1 σ3 ⟨rfl, rfl⟩
        refine G_if rfl (fun q2 => ?_) (fun q2 => ?_)
        · have q2 : ¬ cntF T l (bhF M.1 T (l + 1) x - ahF T (l + 1) x) (ahF T (l + 1) x) = 1 := fun e => q2 (by show nI (cntF T l (bhF M.1 T (l + 1) x - ahF T (l + 1) x) (ahF T (l + 1) x)) = 1; rw [e]; rfl)
          refine G_to [70] rfl ?_
          have e : helpF M.1 T (l + 1) x = T := by
            rw [helpF]
            exact if_neg q2
          rw [e] at s1 s2 s3 s4
          rw [helpL, e]
          exact ih _ σ3 T (by rw [hx6]; exact pk_m1 l) (by omega) hT s1 s2 (Or.inr s3) s4 hI2 (hf.tr (hf2.p (by decide)))
        · have q2 : cntF T l (bhF M.1 T (l + 1) x - ahF T (l + 1) x) (ahF T (l + 1) x) = 1 := ieq (b := 1) (Classical.not_not.mp q2) (by show cntF T l _ _ < _; omega) (by decide)
          refine G_callv rfl (by rw [hx6]) (ev_help_21 hI2 hw1 hm (l := l + 1) (x := x) (by omega) (by omega) (by show x ≤ M.1; omega) h21 h22 q2 (s5 q2) hLB) ?_
          rintro r1 σ4 ⟨rfl, hf4, hI4⟩
          refine G_to [70] rfl ?_
          rw [helpL]
          exact ih _ σ4 _ (by rw [hx6]; exact pk_m1 l) (by omega) (helpF_le (by omega) (by omega) hT (by omega)) s1 s2 (Or.inr s3) s4 hI4 ((hf.tr (hf2.p (by decide))).tr hf4)
  have start : ∀ (K V : Nat → Nat) (σ1 : Hp) (x5 : Int32), x5 = nI x → isP σ1 21 mb (M.1, K, V, M.2.2.2) → frP 21 mb σ σ1 → RR 111 61 [some rMo, some (rP 21), some (.inl (nI mb)), some (.inl (nI p)), some (.inl (nI (M.2.2.1 p))), some (.inl x5), none] [] σ1 (fun r σ' => r = some (.inl (nI (M.2.2.1 p))) ∧ frP 21 mb σ σ' ∧ isP σ' 21 mb (M.1 - 1, delF K x, delF V x, delF (helpL M.1 x (topF M.2.2.2 M.1 - 1) M.2.2.2) x)) := by
    intro K V σ1 x5 hx5 hI1 hf
    subst hx5
    refine G_call rfl (ev_ptop_21 hI1 ⟨hn, hw.t.2⟩ hm) ?_
    rintro r1 σ2 ⟨rfl, rfl⟩
    refine G_to [70] rfl ?_
    refine lev K V _ _ _ M.2.2.2 (lm1 (by show 1 ≤ topF M.2.2.2 M.1; omega)) (by omega) (fun i hi => by have := hlow i hi; omega) hV.2 o2 (Or.inr ⟨i0, hi0, by omega⟩) (fun hex => ?_) hI1 hf
    obtain ⟨i, hi, hi2⟩ := hex
    have := topF_ge M.2.2.2 M.1 i hi
    omega
  refine G_ald rfl (mb + 41 + p) (ix41 mb p) (by omega) (by decide) ?_
  rw [(hI.2 p hp).2.1]
  refine G_ald rfl (mb + 81 + p) (ix81 mb p) (by omega) (by decide) ?_
  rw [(hI.2 p hp).2.2]
  have hTp := hlow p hp
  refine G_if rfl (fun q => ?_) (fun q => ?_)
  · have q := ile (b := 0) q (by omega) (by decide)
    have e := o5 (by omega)
    refine (start M.2.1 M.2.2.1 σ _ (by rw [e]) hI (frP.rf _ _ _)).mono ?_
    rintro r σ' ⟨k1, k2, k3⟩
    refine ⟨k1, k2, ?_⟩
    unfold outM
    rw [hxe]
    rw [e] at k3 ⊢
    exact k3
  · have q := nle (b := 0) q (by omega) (by decide)
    have e := o4 q
    refine G_ald rfl (mb + 1 + (p + 1)) (by rw [nI_1 p]; exact ix1 mb (p + 1)) (by omega) (by decide) ?_
    refine G_ast rfl (mb + 1 + p) (ix1 mb p) (by omega) (by decide) ?_
    refine G_ald rfl (mb + 41 + (p + 1)) (by rw [nI_1 p]; exact ix41 mb (p + 1)) (by omega) (by decide) ?_
    refine G_ast rfl (mb + 41 + p) (ix41 mb p) (by omega) (by decide) ?_
    refine (start (upN M.2.1 p (M.2.1 (p + 1))) (upN M.2.2.1 p (M.2.2.1 (p + 1))) (hset (hset σ.1 21 0 (mb + 1 + p) (σ.1 21 0 (mb + 1 + (p + 1)))) 21 0 (mb + 41 + p) (hset σ.1 21 0 (mb + 1 + p) (σ.1 21 0 (mb + 1 + (p + 1))) 21 0 (mb + 41 + (p + 1))), σ.2) (nI p + 1) (by rw [nI_1, e]) ⟨?_, fun i hi => ?_⟩ (((frP.rf _ _ _).st (by decide) (by omega)).st (by decide) (by omega))).mono ?_
    · show hset (hset σ.1 21 0 (mb + 1 + p) _) 21 0 (mb + 41 + p) _ 21 0 mb = _
      unfold hset
      rw [if_neg (by omega), if_neg (by omega)]
      exact hI.1
    · have hi : i < M.1 := hi
      obtain ⟨a1, a2, a3⟩ := hI.2 i hi
      obtain ⟨b1, b2, b3⟩ := hI.2 (p + 1) (by omega)
      have e41 : hset σ.1 21 0 (mb + 1 + p) (σ.1 21 0 (mb + 1 + (p + 1))) 21 0 (mb + 41 + (p + 1)) = nI (M.2.2.1 (p + 1)) := by
        unfold hset
        rw [if_neg (by omega)]
        exact b2
      show hset (hset σ.1 21 0 (mb + 1 + p) (σ.1 21 0 (mb + 1 + (p + 1)))) 21 0 (mb + 41 + p) (hset σ.1 21 0 (mb + 1 + p) (σ.1 21 0 (mb + 1 + (p + 1))) 21 0 (mb + 41 + (p + 1))) 21 0 (mb + 1 + i) = nI (upN M.2.1 p (M.2.1 (p + 1)) i) ∧ hset (hset σ.1 21 0 (mb + 1 + p) (σ.1 21 0 (mb + 1 + (p + 1)))) 21 0 (mb + 41 + p) (hset σ.1 21 0 (mb + 1 + p) (σ.1 21 0 (mb + 1 + (p + 1))) 21 0 (mb + 41 + (p + 1))) 21 0 (mb + 41 + i) = nI (upN M.2.2.1 p (M.2.2.1 (p + 1)) i) ∧ hset (hset σ.1 21 0 (mb + 1 + p) (σ.1 21 0 (mb + 1 + (p + 1)))) 21 0 (mb + 41 + p) (hset σ.1 21 0 (mb + 1 + p) (σ.1 21 0 (mb + 1 + (p + 1))) 21 0 (mb + 41 + (p + 1))) 21 0 (mb + 81 + i) = nI (M.2.2.2 i)
      rw [e41, b1]
      unfold hset upN
      refine ⟨?_, ?_, ?_⟩
      · rw [if_neg (by omega)]
        by_cases hip : i = p
        · rw [if_pos (by omega), if_pos hip]
        · rw [if_neg (by omega), if_neg hip]
          exact a1
      · by_cases hip : i = p
        · rw [if_pos (by omega), if_pos hip]
        · rw [if_neg (by omega), if_neg (by omega), if_neg hip]
          exact a2
      · rw [if_neg (by omega), if_neg (by omega)]
        exact a3
    · rintro r σ' ⟨k1, k2, k3⟩
      refine ⟨k1, k2, ?_⟩
      unfold outM
      rw [hxe]
      rw [e] at k3 ⊢
      rw [del_up, del_up] at k3
      exact k3
theorem ev_goRemove_22 (hI : isP σ 22 mb M) (hV : Inv M) (hm : mb + 121 ≤ 242) {p : Nat} (hp : p < M.1) : Ev 111 [rMo, rP 22, .inl (nI mb), .inl (nI p)] σ (fun r σ' => r = some (.inl (nI (M.2.2.1 p))) ∧ frP 22 mb σ σ' ∧ isP σ' 22 mb (outM M p)) := by
  have hw := hV.1
  have hn := hw.1
  have hlow := hV.low
  have htop := low_top hlow
  obtain ⟨o1, o2, o3, o4, o5⟩ := outP_ok hV.2 hp
  obtain ⟨i0, hi0, ht0⟩ := topF_at M.2.2.2 M.1 (by omega)
  generalize hxe : outP M p = x at *
  have shift : ∀ (K V T' : Nat → Nat) (m i : Nat) (x6 : Int32) (σ1 : Hp), x6 = nI (i + 1) → i + 1 + m = M.1 → x ≤ i → σ1.1 22 0 mb = nI M.1 → pD σ1 22 mb 1 M.1 i x K → pD σ1 22 mb 41 M.1 i x V → pD σ1 22 mb 81 M.1 i x T' → frP 22 mb σ σ1 →
      RR 111 132 [some rMo, some (rP 22), some (.inl (nI mb)), some (.inl (nI p)), some (.inl (nI (M.2.2.1 p))), some (.inl (nI x)), some (.inl x6)] [] σ1 (fun r σ' => r = some (.inl (nI (M.2.2.1 p))) ∧ frP 22 mb σ σ' ∧ isP σ' 22 mb (M.1 - 1, delF K x, delF V x, delF T' x)) := by
    intro K V T' m
    induction m with
    | zero =>
      intro i x6 σ1 hx6 hi hxi hs h1 h41 h81 hf
      refine G_ald rfl mb rfl (by omega) (by decide) ?_
      rw [hs]
      refine G_if rfl (fun q => ?_) (fun q => ?_)
      · refine G_ald rfl mb rfl (by omega) (by decide) ?_
        refine G_ast rfl mb rfl (by omega) (by decide) ?_
        rw [hs, lm1 (by omega)]
        refine G_ret rfl ⟨rfl, hf.st (by decide) (by omega), ?_, fun y hy => ?_⟩
        · show hset σ1.1 22 0 mb (nI (M.1 - 1)) 22 0 mb = _
          unfold hset
          rw [if_pos ⟨rfl, rfl, rfl⟩]
        · have hy : y < M.1 - 1 := hy
          show hset σ1.1 22 0 mb (nI (M.1 - 1)) 22 0 (mb + 1 + y) = _ ∧ hset σ1.1 22 0 mb (nI (M.1 - 1)) 22 0 (mb + 41 + y) = _ ∧ hset σ1.1 22 0 mb (nI (M.1 - 1)) 22 0 (mb + 81 + y) = _
          unfold hset
          rw [if_neg (by omega), if_neg (by omega), if_neg (by omega)]
          exact ⟨h1.1 y (by omega), h41.1 y (by omega), h81.1 y (by omega)⟩
      · rw [hx6] at q
        exact absurd (nle q (by omega) (by omega)) (by omega)
    | succ m ih =>
      intro i x6 σ1 hx6 hi hxi hs h1 h41 h81 hf
      refine G_ald rfl mb rfl (by omega) (by decide) ?_
      rw [hs]
      refine G_if rfl (fun q => ?_) (fun q => ?_)
      · rw [hx6] at q
        exact absurd (ile q (by omega) (by omega)) (by omega)
      · refine G_callv rfl (by rw [hx6, nI_pred]) (ev_move_22 (σ := σ1) hm (t := i) (f := i + 1) (by omega) (by omega)) ?_
        rintro r1 σ2 ⟨rfl, hf2, hmb, hxx⟩
        refine G_to [132] rfl ?_
        refine ih (i + 1) _ σ2 (by rw [hx6]; exact nI_1 _) (by omega) (by omega) (by rw [hmb]; exact hs) ⟨fun y hy => ?_, fun y hy hy2 => ?_⟩ ⟨fun y hy => ?_, fun y hy hy2 => ?_⟩ ⟨fun y hy => ?_, fun y hy hy2 => ?_⟩ (hf.tr hf2)
        · rw [(hxx y (by omega)).1]
          by_cases hyy : y = i
          · rw [if_pos hyy, hyy, delF, if_neg (by omega)]
            exact h1.2 _ (by omega) (by omega)
          · rw [if_neg hyy]
            exact h1.1 y (by omega)
        · rw [(hxx y (by omega)).1, if_neg (by omega)]
          exact h1.2 y (by omega) hy2
        · rw [(hxx y (by omega)).2.1]
          by_cases hyy : y = i
          · rw [if_pos hyy, hyy, delF, if_neg (by omega)]
            exact h41.2 _ (by omega) (by omega)
          · rw [if_neg hyy]
            exact h41.1 y (by omega)
        · rw [(hxx y (by omega)).2.1, if_neg (by omega)]
          exact h41.2 y (by omega) hy2
        · rw [(hxx y (by omega)).2.2]
          by_cases hyy : y = i
          · rw [if_pos hyy, hyy, delF, if_neg (by omega)]
            exact h81.2 _ (by omega) (by omega)
          · rw [if_neg hyy]
            exact h81.1 y (by omega)
        · rw [(hxx y (by omega)).2.2, if_neg (by omega)]
          exact h81.2 y (by omega) hy2
  have hdl : ∀ (f : Nat → Nat) (y : Nat), y < x → delF f x y = f y := fun f y hy => by simp [delF, hy]
  have lev : ∀ (K V : Nat → Nat) (l : Nat) (x6 : Int32) (σ1 : Hp) (T : Nat → Nat), x6 = nI l → l ≤ 40 → (∀ i, i < M.1 → T i ≤ 40) → LB M.1 T → T x = 0 → (l = 0 ∨ ∃ i, i < M.1 ∧ l ≤ T i) → J2 M.1 T x (l + 1) → isP σ1 22 mb (M.1, K, V, T) → frP 22 mb σ σ1 →
      RR 111 70 [some rMo, some (rP 22), some (.inl (nI mb)), some (.inl (nI p)), some (.inl (nI (M.2.2.1 p))), some (.inl (nI x)), some (.inl x6)] [] σ1 (fun r σ' => r = some (.inl (nI (M.2.2.1 p))) ∧ frP 22 mb σ σ' ∧ isP σ' 22 mb (M.1 - 1, delF K x, delF V x, delF (helpL M.1 x l T) x)) := by
    intro K V l
    induction l with
    | zero =>
      intro x6 σ1 T hx6 hl hT hLB hTx hex hJ hI1 hf
      refine G_if rfl (fun q => ?_) (fun q => ?_)
      · refine G_to [132] rfl ?_
        exact shift K V T (M.1 - (x + 1)) x _ σ1 (nI_1 x) (by omega) (Nat.le_refl _) hI1.1 ⟨fun y hy => by rw [hdl _ _ hy]; exact (hI1.2 y (by show y < M.1; omega)).1, fun y h1 h2 => (hI1.2 y h2).1⟩ ⟨fun y hy => by rw [hdl _ _ hy]; exact (hI1.2 y (by show y < M.1; omega)).2.1, fun y h1 h2 => (hI1.2 y h2).2.1⟩ ⟨fun y hy => by rw [hdl _ _ hy]; exact (hI1.2 y (by show y < M.1; omega)).2.2, fun y h1 h2 => (hI1.2 y h2).2.2⟩ hf
      · exact absurd (by rw [hx6]; exact nI_le (Nat.le_refl 0) (by decide)) q
    | succ l ih =>
      intro x6 σ1 T hx6 hl hT hLB hTx hex hJ hI1 hf
      have hw1 : wfT (M.1, K, V, T) := ⟨hw.1, fun i hi => by have := hT i hi; show T i < 64; omega⟩
      have hex' : ∃ i, i < M.1 ∧ l + 1 ≤ T i := by
        rcases hex with q | q
        · omega
        · exact q
      obtain ⟨s1, s2, s3, s4, s5⟩ := help_step hLB (by omega) o1 hTx hex' hJ
      have ha := ahF_le T (l + 1) x
      have hb := bhF_le T (l + 1) (Nat.le_of_lt o1)
      have hc := cntF_le T l (bhF M.1 T (l + 1) x - ahF T (l + 1) x) (ahF T (l + 1) x)
      refine G_if rfl (fun q => ?_) (fun q => ?_)
      · rw [hx6] at q
        exact absurd (ile (b := 0) q (by omega) (by decide)) (by omega)
      · refine G_callv rfl (by rw [hx6, nI_1]) (ev_layGap_22 hI1 hw1 hm (l := l + 1) (q := x) (f := x + 1) (by omega) (by show x ≤ M.1; omega) (by show x + 1 ≤ M.1; omega)) ?_
        rintro r1 σ2 ⟨rfl, hf2, h21, h22⟩
        have h22 : σ2.1 6 0 22 = nI (bhF M.1 T (l + 1) x) := by
          rw [h22]
          show nI (bhF M.1 T (l + 1) (x + 1)) = _
          rw [bhF_skip o1 (by omega)]
        have hI2 := hf2.is (by decide) hI1
        refine G_callv rfl (by rw [h21, h22, hx6, nI_pred]) (ev_between_22 hI2 hw1 hm (a := ahF T (l + 1) x) (b := bhF M.1 T (l + 1) x) (h := l) hb.2 (by show ahF T (l + 1) x ≤ M.1; omega) (by omega)) ?_
        rintro r1 σ3 ⟨rfl, rfl⟩
        refine G_if rfl (fun q2 => ?_) (fun q2 => ?_)
        · have q2 : ¬ cntF T l (bhF M.1 T (l + 1) x - ahF T (l + 1) x) (ahF T (l + 1) x) = 1 := fun e => q2 (by show nI (cntF T l (bhF M.1 T (l + 1) x - ahF T (l + 1) x) (ahF T (l + 1) x)) = 1; rw [e]; rfl)
          refine G_to [70] rfl ?_
          have e : helpF M.1 T (l + 1) x = T := by
            rw [helpF]
            exact if_neg q2
          rw [e] at s1 s2 s3 s4
          rw [helpL, e]
          exact ih _ σ3 T (by rw [hx6]; exact pk_m1 l) (by omega) hT s1 s2 (Or.inr s3) s4 hI2 (hf.tr (hf2.p (by decide)))
        · have q2 : cntF T l (bhF M.1 T (l + 1) x - ahF T (l + 1) x) (ahF T (l + 1) x) = 1 := ieq (b := 1) (Classical.not_not.mp q2) (by show cntF T l _ _ < _; omega) (by decide)
          refine G_callv rfl (by rw [hx6]) (ev_help_22 hI2 hw1 hm (l := l + 1) (x := x) (by omega) (by omega) (by show x ≤ M.1; omega) h21 h22 q2 (s5 q2) hLB) ?_
          rintro r1 σ4 ⟨rfl, hf4, hI4⟩
          refine G_to [70] rfl ?_
          rw [helpL]
          exact ih _ σ4 _ (by rw [hx6]; exact pk_m1 l) (by omega) (helpF_le (by omega) (by omega) hT (by omega)) s1 s2 (Or.inr s3) s4 hI4 ((hf.tr (hf2.p (by decide))).tr hf4)
  have start : ∀ (K V : Nat → Nat) (σ1 : Hp) (x5 : Int32), x5 = nI x → isP σ1 22 mb (M.1, K, V, M.2.2.2) → frP 22 mb σ σ1 → RR 111 61 [some rMo, some (rP 22), some (.inl (nI mb)), some (.inl (nI p)), some (.inl (nI (M.2.2.1 p))), some (.inl x5), none] [] σ1 (fun r σ' => r = some (.inl (nI (M.2.2.1 p))) ∧ frP 22 mb σ σ' ∧ isP σ' 22 mb (M.1 - 1, delF K x, delF V x, delF (helpL M.1 x (topF M.2.2.2 M.1 - 1) M.2.2.2) x)) := by
    intro K V σ1 x5 hx5 hI1 hf
    subst hx5
    refine G_call rfl (ev_ptop_22 hI1 ⟨hn, hw.t.2⟩ hm) ?_
    rintro r1 σ2 ⟨rfl, rfl⟩
    refine G_to [70] rfl ?_
    refine lev K V _ _ _ M.2.2.2 (lm1 (by show 1 ≤ topF M.2.2.2 M.1; omega)) (by omega) (fun i hi => by have := hlow i hi; omega) hV.2 o2 (Or.inr ⟨i0, hi0, by omega⟩) (fun hex => ?_) hI1 hf
    obtain ⟨i, hi, hi2⟩ := hex
    have := topF_ge M.2.2.2 M.1 i hi
    omega
  refine G_ald rfl (mb + 41 + p) (ix41 mb p) (by omega) (by decide) ?_
  rw [(hI.2 p hp).2.1]
  refine G_ald rfl (mb + 81 + p) (ix81 mb p) (by omega) (by decide) ?_
  rw [(hI.2 p hp).2.2]
  have hTp := hlow p hp
  refine G_if rfl (fun q => ?_) (fun q => ?_)
  · have q := ile (b := 0) q (by omega) (by decide)
    have e := o5 (by omega)
    refine (start M.2.1 M.2.2.1 σ _ (by rw [e]) hI (frP.rf _ _ _)).mono ?_
    rintro r σ' ⟨k1, k2, k3⟩
    refine ⟨k1, k2, ?_⟩
    unfold outM
    rw [hxe]
    rw [e] at k3 ⊢
    exact k3
  · have q := nle (b := 0) q (by omega) (by decide)
    have e := o4 q
    refine G_ald rfl (mb + 1 + (p + 1)) (by rw [nI_1 p]; exact ix1 mb (p + 1)) (by omega) (by decide) ?_
    refine G_ast rfl (mb + 1 + p) (ix1 mb p) (by omega) (by decide) ?_
    refine G_ald rfl (mb + 41 + (p + 1)) (by rw [nI_1 p]; exact ix41 mb (p + 1)) (by omega) (by decide) ?_
    refine G_ast rfl (mb + 41 + p) (ix41 mb p) (by omega) (by decide) ?_
    refine (start (upN M.2.1 p (M.2.1 (p + 1))) (upN M.2.2.1 p (M.2.2.1 (p + 1))) (hset (hset σ.1 22 0 (mb + 1 + p) (σ.1 22 0 (mb + 1 + (p + 1)))) 22 0 (mb + 41 + p) (hset σ.1 22 0 (mb + 1 + p) (σ.1 22 0 (mb + 1 + (p + 1))) 22 0 (mb + 41 + (p + 1))), σ.2) (nI p + 1) (by rw [nI_1, e]) ⟨?_, fun i hi => ?_⟩ (((frP.rf _ _ _).st (by decide) (by omega)).st (by decide) (by omega))).mono ?_
    · show hset (hset σ.1 22 0 (mb + 1 + p) _) 22 0 (mb + 41 + p) _ 22 0 mb = _
      unfold hset
      rw [if_neg (by omega), if_neg (by omega)]
      exact hI.1
    · have hi : i < M.1 := hi
      obtain ⟨a1, a2, a3⟩ := hI.2 i hi
      obtain ⟨b1, b2, b3⟩ := hI.2 (p + 1) (by omega)
      have e41 : hset σ.1 22 0 (mb + 1 + p) (σ.1 22 0 (mb + 1 + (p + 1))) 22 0 (mb + 41 + (p + 1)) = nI (M.2.2.1 (p + 1)) := by
        unfold hset
        rw [if_neg (by omega)]
        exact b2
      show hset (hset σ.1 22 0 (mb + 1 + p) (σ.1 22 0 (mb + 1 + (p + 1)))) 22 0 (mb + 41 + p) (hset σ.1 22 0 (mb + 1 + p) (σ.1 22 0 (mb + 1 + (p + 1))) 22 0 (mb + 41 + (p + 1))) 22 0 (mb + 1 + i) = nI (upN M.2.1 p (M.2.1 (p + 1)) i) ∧ hset (hset σ.1 22 0 (mb + 1 + p) (σ.1 22 0 (mb + 1 + (p + 1)))) 22 0 (mb + 41 + p) (hset σ.1 22 0 (mb + 1 + p) (σ.1 22 0 (mb + 1 + (p + 1))) 22 0 (mb + 41 + (p + 1))) 22 0 (mb + 41 + i) = nI (upN M.2.2.1 p (M.2.2.1 (p + 1)) i) ∧ hset (hset σ.1 22 0 (mb + 1 + p) (σ.1 22 0 (mb + 1 + (p + 1)))) 22 0 (mb + 41 + p) (hset σ.1 22 0 (mb + 1 + p) (σ.1 22 0 (mb + 1 + (p + 1))) 22 0 (mb + 41 + (p + 1))) 22 0 (mb + 81 + i) = nI (M.2.2.2 i)
      rw [e41, b1]
      unfold hset upN
      refine ⟨?_, ?_, ?_⟩
      · rw [if_neg (by omega)]
        by_cases hip : i = p
        · rw [if_pos (by omega), if_pos hip]
        · rw [if_neg (by omega), if_neg hip]
          exact a1
      · by_cases hip : i = p
        · rw [if_pos (by omega), if_pos hip]
        · rw [if_neg (by omega), if_neg (by omega), if_neg hip]
          exact a2
      · rw [if_neg (by omega), if_neg (by omega)]
        exact a3
    · rintro r σ' ⟨k1, k2, k3⟩
      refine ⟨k1, k2, ?_⟩
      unfold outM
      rw [hxe]
      rw [e] at k3 ⊢
      rw [del_up, del_up] at k3
      exact k3
end MO
