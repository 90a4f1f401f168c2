/-! The model: a key put in. -/
theorem frP.is {P mb mb' : Nat} {σ σ' : Hp} {M : AM} (h : frP P mb σ σ') (hd : mb + 121 ≤ mb' ∨ mb' + 121 ≤ mb) (hn : M.1 ≤ 40) (hI : isP σ P mb' M) : isP σ' P mb' M := by
  have e : ∀ x, mb' ≤ x → x < mb' + 121 → σ'.1 P 0 x = σ.1 P 0 x := fun x h1 h2 => h.2.2.2 x (by omega)
  refine ⟨by rw [e mb' (by omega) (by omega)]; exact hI.1, fun i hi => ?_⟩
  rw [e (mb' + 1 + i) (by omega) (by omega), e (mb' + 41 + i) (by omega) (by omega), e (mb' + 81 + i) (by omega) (by omega)]
  exact hI.2 i hi
section MO
variable {σ : Hp} {mb : Nat} {M : AM}
theorem ev_goNew_21 (hI : isP σ 21 mb M) (hw : wfM M) (hlow : lowM M) (hm : mb + 121 ≤ 242) (hn : M.1 < 40) {key v : Nat} (hk : key < 100) : Ev 103 [rMo, rP 21, .inl (nI mb), .inl (nI key), .inl (nI v)] σ (fun r σ' => r = none ∧ frP 21 mb σ σ' ∧ isP σ' 21 mb (placeM M key v)) := by
  have hle := les_le M key
  have htop := low_top hlow
  have shift : ∀ (T' : Nat → Nat) (d : Nat) (x : Int32) (σ1 : Hp), x = nI (les M key + d) → les M key + d ≤ M.1 → σ1.1 21 0 mb = nI M.1 → pU σ1 21 mb 1 M.1 (les M key + d) M.2.1 → pU σ1 21 mb 41 M.1 (les M key + d) M.2.2.1 → pU σ1 21 mb 81 M.1 (les M key + d) T' → frP 21 mb σ σ1 →
      RR 103 95 [some rMo, some (rP 21), some (.inl (nI mb)), some (.inl (nI key)), some (.inl (nI v)), some (.inl (nI (les M key))), some (.inl x)] [] σ1 (fun r σ' => r = none ∧ frP 21 mb σ σ' ∧ isP σ' 21 mb (insM (setT M T') (les M key) key v 0)) := by
    intro T' d
    induction d with
    | zero =>
      intro x σ1 hx hd hs h1 h41 h81 hf
      refine G_if rfl (fun q => ?_) (fun q => ?_)
      · refine G_ast rfl (mb + 1 + les M key) (ix1 mb _) (by omega) (by decide) ?_
        refine G_ast rfl (mb + 41 + les M key) (ix41 mb _) (by omega) (by decide) ?_
        refine G_ast rfl (mb + 81 + les M key) (ix81 mb _) (by omega) (by decide) ?_
        refine G_ald rfl mb rfl (by omega) (by decide) ?_
        refine G_ast rfl mb rfl (by omega) (by decide) ?_
        refine G_ret rfl ⟨rfl, ((((hf.st (by decide) (by omega)).st (by decide) (by omega)).st (by decide) (by omega)).st (by decide) (by omega)), ?_, fun i hi => ?_⟩
        · dsimp only
          simp only [hset]
          rw [if_pos ⟨trivial, trivial, trivial⟩, if_neg (by omega), if_neg (by omega), if_neg (by omega), hs]
          exact nI_1 _
        · have hi : i < M.1 + 1 := hi
          have a1 := h1.1 i
          have b1 := h1.2 i
          have a2 := h41.1 i
          have b2 := h41.2 i
          have a3 := h81.1 i
          have b3 := h81.2 i
          show hset (hset (hset (hset σ1.1 21 0 (mb + 1 + les M key) (nI key)) 21 0 (mb + 41 + les M key) (nI v)) 21 0 (mb + 81 + les M key) 0) 21 0 mb _ 21 0 (mb + 1 + i) = nI (insF M.2.1 (les M key) key i) ∧ hset (hset (hset (hset σ1.1 21 0 (mb + 1 + les M key) (nI key)) 21 0 (mb + 41 + les M key) (nI v)) 21 0 (mb + 81 + les M key) 0) 21 0 mb _ 21 0 (mb + 41 + i) = nI (insF M.2.2.1 (les M key) v i) ∧ hset (hset (hset (hset σ1.1 21 0 (mb + 1 + les M key) (nI key)) 21 0 (mb + 41 + les M key) (nI v)) 21 0 (mb + 81 + les M key) 0) 21 0 mb _ 21 0 (mb + 81 + i) = nI (insF T' (les M key) 0 i)
          unfold insF hset
          rcases Nat.lt_trichotomy i (les M key) with hip | hip | hip
          · refine ⟨?_, ?_, ?_⟩
            · rw [if_neg (by omega), if_neg (by omega), if_neg (by omega), if_neg (by omega), if_pos hip]
              exact a1 (by omega)
            · rw [if_neg (by omega), if_neg (by omega), if_neg (by omega), if_neg (by omega), if_pos hip]
              exact a2 (by omega)
            · rw [if_neg (by omega), if_neg (by omega), if_neg (by omega), if_neg (by omega), if_pos hip]
              exact a3 (by omega)
          · subst hip
            refine ⟨?_, ?_, ?_⟩
            · rw [if_neg (by omega), if_neg (by omega), if_neg (by omega), if_pos (by omega), if_neg (by omega), if_pos rfl]
            · rw [if_neg (by omega), if_neg (by omega), if_pos (by omega), if_neg (by omega), if_pos rfl]
            · rw [if_neg (by omega), if_pos (by omega), if_neg (by omega), if_pos rfl]
              rfl
          · refine ⟨?_, ?_, ?_⟩
            · rw [if_neg (by omega), if_neg (by omega), if_neg (by omega), if_neg (by omega), if_neg (by omega), if_neg (by omega)]
              exact b1 (by omega) (by omega)
            · rw [if_neg (by omega), if_neg (by omega), if_neg (by omega), if_neg (by omega), if_neg (by omega), if_neg (by omega)]
              exact b2 (by omega) (by omega)
            · rw [if_neg (by omega), if_neg (by omega), if_neg (by omega), if_neg (by omega), if_neg (by omega), if_neg (by omega)]
              exact b3 (by omega) (by omega)
      · rw [hx] at q
        exact absurd (nle q (by omega) (by omega)) (by omega)
    | succ d ih =>
      intro x σ1 hx hd hs h1 h41 h81 hf
      refine G_if rfl (fun q => ?_) (fun q => ?_)
      · rw [hx] at q
        exact absurd (ile q (by omega) (by omega)) (by omega)
      · refine G_callv rfl (by rw [hx, show les M key + (d + 1) = les M key + d + 1 from rfl, nI_pred]) (ev_move_21 (σ := σ1) hm (t := les M key + d + 1) (f := les M key + d) (by omega) (by omega)) ?_
        rintro r1 σ2 ⟨rfl, hf2, hmb, hxx⟩
        refine G_to [95] rfl ?_
        refine ih _ σ2 (by rw [hx]; exact pk_m1 _) (by omega) (by rw [hmb]; exact hs) ⟨fun y hy => ?_, fun y hy hy2 => ?_⟩ ⟨fun y hy => ?_, fun y hy hy2 => ?_⟩ ⟨fun y hy => ?_, fun y hy hy2 => ?_⟩ (hf.tr hf2)
        · rw [(hxx y (by omega)).1, if_neg (by omega)]
          exact h1.1 y (by omega)
        · rw [(hxx y (by omega)).1]
          by_cases hyy : y = les M key + d + 1
          · rw [if_pos hyy, hyy]
            exact h1.1 _ (by omega)
          · rw [if_neg hyy]
            exact h1.2 y (by omega) hy2
        · rw [(hxx y (by omega)).2.1, if_neg (by omega)]
          exact h41.1 y (by omega)
        · rw [(hxx y (by omega)).2.1]
          by_cases hyy : y = les M key + d + 1
          · rw [if_pos hyy, hyy]
            exact h41.1 _ (by omega)
          · rw [if_neg hyy]
            exact h41.2 y (by omega) hy2
        · rw [(hxx y (by omega)).2.2, if_neg (by omega)]
          exact h81.1 y (by omega)
        · rw [(hxx y (by omega)).2.2]
          by_cases hyy : y = les M key + d + 1
          · rw [if_pos hyy, hyy]
            exact h81.1 _ (by omega)
          · rw [if_neg hyy]
            exact h81.2 y (by omega) hy2
  have lev : ∀ (l : Nat) (x : Int32) (σ1 : Hp) (T : Nat → Nat), x = nI l → l ≤ 40 → (∀ i, i < M.1 → T i ≤ 40) → isP σ1 21 mb (setT M T) → frP 21 mb σ σ1 →
      RR 103 15 [some rMo, some (rP 21), some (.inl (nI mb)), some (.inl (nI key)), some (.inl (nI v)), some (.inl (nI (les M key))), some (.inl x)] [] σ1 (fun r σ' => r = none ∧ frP 21 mb σ σ' ∧ isP σ' 21 mb (insM (setT M (partL M.1 (les M key) l T)) (les M key) key v 0)) := by
    intro l
    induction l with
    | zero =>
      intro x σ1 T hx hl hT hI1 hf
      refine G_if rfl (fun q => ?_) (fun q => ?_)
      · refine G_ald rfl mb rfl (by omega) (by decide) ?_
        refine G_to [95] rfl ?_
        exact shift T (M.1 - les M key) _ σ1 (by rw [hI1.1, show les M key + (M.1 - les M key) = M.1 by omega]; rfl) (by omega) hI1.1 ⟨fun y hy => (hI1.2 y (by show y < M.1; omega)).1, fun y h1 h2 => by omega⟩ ⟨fun y hy => (hI1.2 y (by show y < M.1; omega)).2.1, fun y h1 h2 => by omega⟩ ⟨fun y hy => (hI1.2 y (by show y < M.1; omega)).2.2, fun y h1 h2 => by omega⟩ hf
      · rw [hx] at q
        exact absurd (ile (b := 0) (nI_le (Nat.le_refl 0) (by decide)) (by decide) (by decide)) (fun _ => q (nI_le (Nat.le_refl 0) (by decide)))
    | succ l ih =>
      intro x σ1 T hx hl hT hI1 hf
      have hw1 : wfT (setT M T) := ⟨hw.1, fun i hi => by have := hT i hi; show T i < 64; omega⟩
      have ha := ahF_le T (l + 1) (les M key)
      have hb := bhF_le T (l + 1) hle
      have hc := cntF_le T l (bhF M.1 T (l + 1) (les M key) - ahF T (l + 1) (les M key)) (ahF T (l + 1) (les M key))
      refine G_if rfl (fun q => ?_) (fun q => ?_)
      · rw [hx] at q
        exact absurd (ile (b := 0) q (by omega) (by decide)) (by omega)
      · refine G_callv rfl (by rw [hx]) (ev_layGap_21 hI1 hw1 hm (l := l + 1) (q := les M key) (f := les M key) (by omega) hle hle) ?_
        rintro r1 σ2 ⟨rfl, hf2, h21, h22⟩
        have hI2 := hf2.is (by decide) hI1
        refine G_callv rfl (by rw [h21, h22, hx, nI_pred]; rfl) (ev_between_21 hI2 hw1 hm (a := ahF T (l + 1) (les M key)) (b := bhF M.1 T (l + 1) (les M key)) (h := l) hb.2 (by show ahF T (l + 1) (les M key) ≤ M.1; omega) (by omega)) ?_
        rintro r1 σ3 ⟨rfl, rfl⟩
        refine G_if rfl (fun q2 => ?_) (fun q2 => ?_)
        · have q2 : ¬ cntF T l (bhF M.1 T (l + 1) (les M key) - ahF T (l + 1) (les M key)) (ahF T (l + 1) (les M key)) = 3 := fun e => q2 (by show nI (cntF T l (bhF M.1 T (l + 1) (les M key) - ahF T (l + 1) (les M key)) (ahF T (l + 1) (les M key))) = 3; rw [e]; rfl)
          refine G_to [15] rfl ?_
          rw [partL, show partF M.1 T (l + 1) (les M key) = T from by rw [partF]; exact if_neg q2]
          exact ih _ σ3 T (by rw [hx]; exact pk_m1 l) (by omega) hT hI2 (hf.tr (hf2.p (by decide)))
        · have q2 : cntF T l (bhF M.1 T (l + 1) (les M key) - ahF T (l + 1) (les M key)) (ahF T (l + 1) (les M key)) = 3 := ieq (b := 3) (Classical.not_not.mp q2) (by show cntF T l _ _ < _; omega) (by decide)
          obtain ⟨n1, n2, n3⟩ := nthF_in T l (bhF M.1 T (l + 1) (les M key) - ahF T (l + 1) (les M key)) (ahF T (l + 1) (les M key)) 2 (by decide) (by omega)
          refine G_callv rfl (by rw [h21, h22, hx, nI_pred]; rfl) (ev_placeOf_21 hI2 hw1 hm (a := ahF T (l + 1) (les M key)) (b := bhF M.1 T (l + 1) (les M key)) (h := l) (w := 1) hb.2 (by omega) (by omega) (by show 1 < cntF T l _ _; omega)) ?_
          rintro r1 σ4 ⟨rfl, rfl⟩
          refine G_ald rfl (mb + 81 + nthF T l (bhF M.1 T (l + 1) (les M key) - ahF T (l + 1) (les M key)) (ahF T (l + 1) (les M key)) 2) (ix81 mb _) (by omega) (by decide) ?_
          refine G_ast rfl (mb + 81 + nthF T l (bhF M.1 T (l + 1) (les M key) - ahF T (l + 1) (les M key)) (ahF T (l + 1) (les M key)) 2) (ix81 mb _) (by omega) (by decide) ?_
          refine G_to [15] rfl ?_
          rw [(hI2.2 (nthF T l (bhF M.1 T (l + 1) (les M key) - ahF T (l + 1) (les M key)) (ahF T (l + 1) (les M key)) 2) (by show _ < M.1; omega)).2.2]
          have hpe : partF M.1 T (l + 1) (les M key) = upN T (nthF T l (bhF M.1 T (l + 1) (les M key) - ahF T (l + 1) (les M key)) (ahF T (l + 1) (les M key)) 2) (T (nthF T l (bhF M.1 T (l + 1) (les M key) - ahF T (l + 1) (les M key)) (ahF T (l + 1) (les M key)) 2) + 1) := by
            rw [partF]
            exact if_pos q2
          have hple := partF_le (n := M.1) (l := l + 1) (p := les M key) (b := 40) (T := T) (by omega) hle hT (by omega)
          rw [partL]
          refine ih _ _ _ (by rw [hx]; exact pk_m1 l) (by omega) hple ?_ ((hf.tr (hf2.p (by decide))).st (by decide) (by omega))
          rw [hpe]
          have := isP_up (v := T (nthF T l (bhF M.1 T (l + 1) (les M key) - ahF T (l + 1) (les M key)) (ahF T (l + 1) (les M key)) 2) + 1) hI2 (by show M.1 ≤ 40; omega) (q := nthF T l (bhF M.1 T (l + 1) (les M key) - ahF T (l + 1) (les M key)) (ahF T (l + 1) (les M key)) 2) (by omega)
          rw [← nI_1] at this
          exact this
  refine G_call rfl (ev_plesser_21 hI hw hm (by omega)) ?_
  rintro r1 σ1 ⟨rfl, rfl⟩
  refine G_call rfl (ev_ptop_21 hI hw.t hm) ?_
  rintro r1 σ1 ⟨rfl, rfl⟩
  refine G_to [15] rfl ?_
  exact lev _ _ _ M.2.2.2 rfl htop (fun i hi => by have := hlow i hi; omega) hI (frP.rf _ _ _)
theorem ev_goPut_21 (hI : isP σ 21 mb M) (hw : wfM M) (hlow : lowM M) (hm : mb + 121 ≤ 242) {key v : Nat} (hk : key < 100) : Ev 102 [rMo, rP 21, .inl (nI mb), .inl (nI key), .inl (nI v)] σ (fun r σ' => (¬ has M key ∧ 40 ≤ M.1 ∧ r = some (.inl 0) ∧ σ' = σ) ∨ (has M key ∧ r = some (.inl 1) ∧ isP σ' 21 mb (setV M (les M key) v) ∧ frP 21 mb σ σ') ∨ (¬ has M key ∧ M.1 < 40 ∧ r = some (.inl 1) ∧ isP σ' 21 mb (placeM M key v) ∧ frP 21 mb σ σ')) := by
  have hn := hw.1
  refine G_call rfl (ev_find_21 hI hw hm (by omega)) ?_
  rintro r1 σ1 ⟨rfl, ⟨hh, rfl⟩ | ⟨hh, rfl⟩⟩
  · have hlt := hh.1
    refine G_if rfl (fun q => ?_) (fun q => ?_)
    · exact absurd q (fun e => by
        have h1 := congrArg Int32.toInt e
        rw [nI_toInt (by omega)] at h1
        have h2 : (-9 : Int32).toInt = -9 := rfl
        omega)
    · refine G_ast rfl (mb + 41 + les M key) (ix41 mb _) (by omega) (by decide) ?_
      refine G_retZ rfl (Or.inr rfl) (Or.inr (Or.inl ⟨hh, rfl, ⟨?_, fun i hi => ?_⟩, (frP.rf _ _ _).st (by decide) (by omega)⟩))
      · show hset σ1.1 21 0 (mb + 41 + les M key) (nI v) 21 0 mb = _
        unfold hset
        rw [if_neg (by omega)]
        exact hI.1
      · obtain ⟨a1, a2, a3⟩ := hI.2 i hi
        have hi : i < M.1 := hi
        show hset σ1.1 21 0 (mb + 41 + les M key) (nI v) 21 0 (mb + 1 + i) = _ ∧ hset σ1.1 21 0 (mb + 41 + les M key) (nI v) 21 0 (mb + 41 + i) = nI (upN M.2.2.1 (les M key) v i) ∧ hset σ1.1 21 0 (mb + 41 + les M key) (nI v) 21 0 (mb + 81 + i) = _
        unfold hset upN
        refine ⟨?_, ?_, ?_⟩
        · rw [if_neg (by omega)]
          exact a1
        · by_cases hil : i = les M key
          · rw [if_pos (by omega), if_pos hil]
          · rw [if_neg (by omega), if_neg hil]
            exact a2
        · rw [if_neg (by omega)]
          exact a3
  · refine G_if rfl (fun q => ?_) (fun q => ?_)
    · refine G_ald rfl mb rfl (by omega) (by decide) ?_
      rw [hI.1]
      refine G_if rfl (fun q2 => ?_) (fun q2 => ?_)
      · have q2 : M.1 < 40 := by
          rcases Nat.lt_or_ge M.1 40 with h | h
          · exact h
          · exact absurd (by rw [show M.1 = 40 by omega]; rfl) q2
        refine G_call rfl (ev_goNew_21 hI hw hlow hm q2 hk) ?_
        rintro r1 σ2 ⟨rfl, h3, h4⟩
        exact G_retZ rfl (Or.inr rfl) (Or.inr (Or.inr ⟨hh, q2, rfl, h4, h3⟩))
      · have q2 : M.1 = 40 := ieq (b := 40) (Classical.not_not.mp q2) (by omega) (by decide)
        exact G_retZ rfl (Or.inl rfl) (Or.inl ⟨hh, by omega, rfl, rfl⟩)
    · exact absurd rfl q
theorem ev_goNew_22 (hI : isP σ 22 mb M) (hw : wfM M) (hlow : lowM M) (hm : mb + 121 ≤ 242) (hn : M.1 < 40) {key v : Nat} (hk : key < 100) : Ev 103 [rMo, rP 22, .inl (nI mb), .inl (nI key), .inl (nI v)] σ (fun r σ' => r = none ∧ frP 22 mb σ σ' ∧ isP σ' 22 mb (placeM M key v)) := by
  have hle := les_le M key
  have htop := low_top hlow
  have shift : ∀ (T' : Nat → Nat) (d : Nat) (x : Int32) (σ1 : Hp), x = nI (les M key + d) → les M key + d ≤ M.1 → σ1.1 22 0 mb = nI M.1 → pU σ1 22 mb 1 M.1 (les M key + d) M.2.1 → pU σ1 22 mb 41 M.1 (les M key + d) M.2.2.1 → pU σ1 22 mb 81 M.1 (les M key + d) T' → frP 22 mb σ σ1 →
      RR 103 95 [some rMo, some (rP 22), some (.inl (nI mb)), some (.inl (nI key)), some (.inl (nI v)), some (.inl (nI (les M key))), some (.inl x)] [] σ1 (fun r σ' => r = none ∧ frP 22 mb σ σ' ∧ isP σ' 22 mb (insM (setT M T') (les M key) key v 0)) := by
    intro T' d
    induction d with
    | zero =>
      intro x σ1 hx hd hs h1 h41 h81 hf
      refine G_if rfl (fun q => ?_) (fun q => ?_)
      · refine G_ast rfl (mb + 1 + les M key) (ix1 mb _) (by omega) (by decide) ?_
        refine G_ast rfl (mb + 41 + les M key) (ix41 mb _) (by omega) (by decide) ?_
        refine G_ast rfl (mb + 81 + les M key) (ix81 mb _) (by omega) (by decide) ?_
        refine G_ald rfl mb rfl (by omega) (by decide) ?_
        refine G_ast rfl mb rfl (by omega) (by decide) ?_
        refine G_ret rfl ⟨rfl, ((((hf.st (by decide) (by omega)).st (by decide) (by omega)).st (by decide) (by omega)).st (by decide) (by omega)), ?_, fun i hi => ?_⟩
        · dsimp only
          simp only [hset]
          rw [if_pos ⟨trivial, trivial, trivial⟩, if_neg (by omega), if_neg (by omega), if_neg (by omega), hs]
          exact nI_1 _
        · have hi : i < M.1 + 1 := hi
          have a1 := h1.1 i
          have b1 := h1.2 i
          have a2 := h41.1 i
          have b2 := h41.2 i
          have a3 := h81.1 i
          have b3 := h81.2 i
          show hset (hset (hset (hset σ1.1 22 0 (mb + 1 + les M key) (nI key)) 22 0 (mb + 41 + les M key) (nI v)) 22 0 (mb + 81 + les M key) 0) 22 0 mb _ 22 0 (mb + 1 + i) = nI (insF M.2.1 (les M key) key i) ∧ hset (hset (hset (hset σ1.1 22 0 (mb + 1 + les M key) (nI key)) 22 0 (mb + 41 + les M key) (nI v)) 22 0 (mb + 81 + les M key) 0) 22 0 mb _ 22 0 (mb + 41 + i) = nI (insF M.2.2.1 (les M key) v i) ∧ hset (hset (hset (hset σ1.1 22 0 (mb + 1 + les M key) (nI key)) 22 0 (mb + 41 + les M key) (nI v)) 22 0 (mb + 81 + les M key) 0) 22 0 mb _ 22 0 (mb + 81 + i) = nI (insF T' (les M key) 0 i)
          unfold insF hset
          rcases Nat.lt_trichotomy i (les M key) with hip | hip | hip
          · refine ⟨?_, ?_, ?_⟩
            · rw [if_neg (by omega), if_neg (by omega), if_neg (by omega), if_neg (by omega), if_pos hip]
              exact a1 (by omega)
            · rw [if_neg (by omega), if_neg (by omega), if_neg (by omega), if_neg (by omega), if_pos hip]
              exact a2 (by omega)
            · rw [if_neg (by omega), if_neg (by omega), if_neg (by omega), if_neg (by omega), if_pos hip]
              exact a3 (by omega)
          · subst hip
            refine ⟨?_, ?_, ?_⟩
            · rw [if_neg (by omega), if_neg (by omega), if_neg (by omega), if_pos (by omega), if_neg (by omega), if_pos rfl]
            · rw [if_neg (by omega), if_neg (by omega), if_pos (by omega), if_neg (by omega), if_pos rfl]
            · rw [if_neg (by omega), if_pos (by omega), if_neg (by omega), if_pos rfl]
              rfl
          · refine ⟨?_, ?_, ?_⟩
            · rw [if_neg (by omega), if_neg (by omega), if_neg (by omega), if_neg (by omega), if_neg (by omega), if_neg (by omega)]
              exact b1 (by omega) (by omega)
            · rw [if_neg (by omega), if_neg (by omega), if_neg (by omega), if_neg (by omega), if_neg (by omega), if_neg (by omega)]
              exact b2 (by omega) (by omega)
            · rw [if_neg (by omega), if_neg (by omega), if_neg (by omega), if_neg (by omega), if_neg (by omega), if_neg (by omega)]
              exact b3 (by omega) (by omega)
      · rw [hx] at q
        exact absurd (nle q (by omega) (by omega)) (by omega)
    | succ d ih =>
      intro x σ1 hx hd hs h1 h41 h81 hf
      refine G_if rfl (fun q => ?_) (fun q => ?_)
      · rw [hx] at q
        exact absurd (ile q (by omega) (by omega)) (by omega)
      · refine G_callv rfl (by rw [hx, show les M key + (d + 1) = les M key + d + 1 from rfl, nI_pred]) (ev_move_22 (σ := σ1) hm (t := les M key + d + 1) (f := les M key + d) (by omega) (by omega)) ?_
        rintro r1 σ2 ⟨rfl, hf2, hmb, hxx⟩
        refine G_to [95] rfl ?_
        refine ih _ σ2 (by rw [hx]; exact pk_m1 _) (by omega) (by rw [hmb]; exact hs) ⟨fun y hy => ?_, fun y hy hy2 => ?_⟩ ⟨fun y hy => ?_, fun y hy hy2 => ?_⟩ ⟨fun y hy => ?_, fun y hy hy2 => ?_⟩ (hf.tr hf2)
        · rw [(hxx y (by omega)).1, if_neg (by omega)]
          exact h1.1 y (by omega)
        · rw [(hxx y (by omega)).1]
          by_cases hyy : y = les M key + d + 1
          · rw [if_pos hyy, hyy]
            exact h1.1 _ (by omega)
          · rw [if_neg hyy]
            exact h1.2 y (by omega) hy2
        · rw [(hxx y (by omega)).2.1, if_neg (by omega)]
          exact h41.1 y (by omega)
        · rw [(hxx y (by omega)).2.1]
          by_cases hyy : y = les M key + d + 1
          · rw [if_pos hyy, hyy]
            exact h41.1 _ (by omega)
          · rw [if_neg hyy]
            exact h41.2 y (by omega) hy2
        · rw [(hxx y (by omega)).2.2, if_neg (by omega)]
          exact h81.1 y (by omega)
        · rw [(hxx y (by omega)).2.2]
          by_cases hyy : y = les M key + d + 1
          · rw [if_pos hyy, hyy]
            exact h81.1 _ (by omega)
          · rw [if_neg hyy]
            exact h81.2 y (by omega) hy2
  have lev : ∀ (l : Nat) (x : Int32) (σ1 : Hp) (T : Nat → Nat), x = nI l → l ≤ 40 → (∀ i, i < M.1 → T i ≤ 40) → isP σ1 22 mb (setT M T) → frP 22 mb σ σ1 →
      RR 103 15 [some rMo, some (rP 22), some (.inl (nI mb)), some (.inl (nI key)), some (.inl (nI v)), some (.inl (nI (les M key))), some (.inl x)] [] σ1 (fun r σ' => r = none ∧ frP 22 mb σ σ' ∧ isP σ' 22 mb (insM (setT M (partL M.1 (les M key) l T)) (les M key) key v 0)) := by
    intro l
    induction l with
    | zero =>
      intro x σ1 T hx hl hT hI1 hf
      refine G_if rfl (fun q => ?_) (fun q => ?_)
      · refine G_ald rfl mb rfl (by omega) (by decide) ?_
        refine G_to [95] rfl ?_
        exact shift T (M.1 - les M key) _ σ1 (by rw [hI1.1, show les M key + (M.1 - les M key) = M.1 by omega]; rfl) (by omega) hI1.1 ⟨fun y hy => (hI1.2 y (by show y < M.1; omega)).1, fun y h1 h2 => by omega⟩ ⟨fun y hy => (hI1.2 y (by show y < M.1; omega)).2.1, fun y h1 h2 => by omega⟩ ⟨fun y hy => (hI1.2 y (by show y < M.1; omega)).2.2, fun y h1 h2 => by omega⟩ hf
      · rw [hx] at q
        exact absurd (ile (b := 0) (nI_le (Nat.le_refl 0) (by decide)) (by decide) (by decide)) (fun _ => q (nI_le (Nat.le_refl 0) (by decide)))
    | succ l ih =>
      intro x σ1 T hx hl hT hI1 hf
      have hw1 : wfT (setT M T) := ⟨hw.1, fun i hi => by have := hT i hi; show T i < 64; omega⟩
      have ha := ahF_le T (l + 1) (les M key)
      have hb := bhF_le T (l + 1) hle
      have hc := cntF_le T l (bhF M.1 T (l + 1) (les M key) - ahF T (l + 1) (les M key)) (ahF T (l + 1) (les M key))
      refine G_if rfl (fun q => ?_) (fun q => ?_)
      · rw [hx] at q
        exact absurd (ile (b := 0) q (by omega) (by decide)) (by omega)
      · refine G_callv rfl (by rw [hx]) (ev_layGap_22 hI1 hw1 hm (l := l + 1) (q := les M key) (f := les M key) (by omega) hle hle) ?_
        rintro r1 σ2 ⟨rfl, hf2, h21, h22⟩
        have hI2 := hf2.is (by decide) hI1
        refine G_callv rfl (by rw [h21, h22, hx, nI_pred]; rfl) (ev_between_22 hI2 hw1 hm (a := ahF T (l + 1) (les M key)) (b := bhF M.1 T (l + 1) (les M key)) (h := l) hb.2 (by show ahF T (l + 1) (les M key) ≤ M.1; omega) (by omega)) ?_
        rintro r1 σ3 ⟨rfl, rfl⟩
        refine G_if rfl (fun q2 => ?_) (fun q2 => ?_)
        · have q2 : ¬ cntF T l (bhF M.1 T (l + 1) (les M key) - ahF T (l + 1) (les M key)) (ahF T (l + 1) (les M key)) = 3 := fun e => q2 (by show nI (cntF T l (bhF M.1 T (l + 1) (les M key) - ahF T (l + 1) (les M key)) (ahF T (l + 1) (les M key))) = 3; rw [e]; rfl)
          refine G_to [15] rfl ?_
          rw [partL, show partF M.1 T (l + 1) (les M key) = T from by rw [partF]; exact if_neg q2]
          exact ih _ σ3 T (by rw [hx]; exact pk_m1 l) (by omega) hT hI2 (hf.tr (hf2.p (by decide)))
        · have q2 : cntF T l (bhF M.1 T (l + 1) (les M key) - ahF T (l + 1) (les M key)) (ahF T (l + 1) (les M key)) = 3 := ieq (b := 3) (Classical.not_not.mp q2) (by show cntF T l _ _ < _; omega) (by decide)
          obtain ⟨n1, n2, n3⟩ := nthF_in T l (bhF M.1 T (l + 1) (les M key) - ahF T (l + 1) (les M key)) (ahF T (l + 1) (les M key)) 2 (by decide) (by omega)
          refine G_callv rfl (by rw [h21, h22, hx, nI_pred]; rfl) (ev_placeOf_22 hI2 hw1 hm (a := ahF T (l + 1) (les M key)) (b := bhF M.1 T (l + 1) (les M key)) (h := l) (w := 1) hb.2 (by omega) (by omega) (by show 1 < cntF T l _ _; omega)) ?_
          rintro r1 σ4 ⟨rfl, rfl⟩
          refine G_ald rfl (mb + 81 + nthF T l (bhF M.1 T (l + 1) (les M key) - ahF T (l + 1) (les M key)) (ahF T (l + 1) (les M key)) 2) (ix81 mb _) (by omega) (by decide) ?_
          refine G_ast rfl (mb + 81 + nthF T l (bhF M.1 T (l + 1) (les M key) - ahF T (l + 1) (les M key)) (ahF T (l + 1) (les M key)) 2) (ix81 mb _) (by omega) (by decide) ?_
          refine G_to [15] rfl ?_
          rw [(hI2.2 (nthF T l (bhF M.1 T (l + 1) (les M key) - ahF T (l + 1) (les M key)) (ahF T (l + 1) (les M key)) 2) (by show _ < M.1; omega)).2.2]
          have hpe : partF M.1 T (l + 1) (les M key) = upN T (nthF T l (bhF M.1 T (l + 1) (les M key) - ahF T (l + 1) (les M key)) (ahF T (l + 1) (les M key)) 2) (T (nthF T l (bhF M.1 T (l + 1) (les M key) - ahF T (l + 1) (les M key)) (ahF T (l + 1) (les M key)) 2) + 1) := by
            rw [partF]
            exact if_pos q2
          have hple := partF_le (n := M.1) (l := l + 1) (p := les M key) (b := 40) (T := T) (by omega) hle hT (by omega)
          rw [partL]
          refine ih _ _ _ (by rw [hx]; exact pk_m1 l) (by omega) hple ?_ ((hf.tr (hf2.p (by decide))).st (by decide) (by omega))
          rw [hpe]
          have := isP_up (v := T (nthF T l (bhF M.1 T (l + 1) (les M key) - ahF T (l + 1) (les M key)) (ahF T (l + 1) (les M key)) 2) + 1) hI2 (by show M.1 ≤ 40; omega) (q := nthF T l (bhF M.1 T (l + 1) (les M key) - ahF T (l + 1) (les M key)) (ahF T (l + 1) (les M key)) 2) (by omega)
          rw [← nI_1] at this
          exact this
  refine G_call rfl (ev_plesser_22 hI hw hm (by omega)) ?_
  rintro r1 σ1 ⟨rfl, rfl⟩
  refine G_call rfl (ev_ptop_22 hI hw.t hm) ?_
  rintro r1 σ1 ⟨rfl, rfl⟩
  refine G_to [15] rfl ?_
  exact lev _ _ _ M.2.2.2 rfl htop (fun i hi => by have := hlow i hi; omega) hI (frP.rf _ _ _)
theorem ev_goPut_22 (hI : isP σ 22 mb M) (hw : wfM M) (hlow : lowM M) (hm : mb + 121 ≤ 242) {key v : Nat} (hk : key < 100) : Ev 102 [rMo, rP 22, .inl (nI mb), .inl (nI key), .inl (nI v)] σ (fun r σ' => (¬ has M key ∧ 40 ≤ M.1 ∧ r = some (.inl 0) ∧ σ' = σ) ∨ (has M key ∧ r = some (.inl 1) ∧ isP σ' 22 mb (setV M (les M key) v) ∧ frP 22 mb σ σ') ∨ (¬ has M key ∧ M.1 < 40 ∧ r = some (.inl 1) ∧ isP σ' 22 mb (placeM M key v) ∧ frP 22 mb σ σ')) := by
  have hn := hw.1
  refine G_call rfl (ev_find_22 hI hw hm (by omega)) ?_
  rintro r1 σ1 ⟨rfl, ⟨hh, rfl⟩ | ⟨hh, rfl⟩⟩
  · have hlt := hh.1
    refine G_if rfl (fun q => ?_) (fun q => ?_)
    · exact absurd q (fun e => by
        have h1 := congrArg Int32.toInt e
        rw [nI_toInt (by omega)] at h1
        have h2 : (-9 : Int32).toInt = -9 := rfl
        omega)
    · refine G_ast rfl (mb + 41 + les M key) (ix41 mb _) (by omega) (by decide) ?_
      refine G_retZ rfl (Or.inr rfl) (Or.inr (Or.inl ⟨hh, rfl, ⟨?_, fun i hi => ?_⟩, (frP.rf _ _ _).st (by decide) (by omega)⟩))
      · show hset σ1.1 22 0 (mb + 41 + les M key) (nI v) 22 0 mb = _
        unfold hset
        rw [if_neg (by omega)]
        exact hI.1
      · obtain ⟨a1, a2, a3⟩ := hI.2 i hi
        have hi : i < M.1 := hi
        show hset σ1.1 22 0 (mb + 41 + les M key) (nI v) 22 0 (mb + 1 + i) = _ ∧ hset σ1.1 22 0 (mb + 41 + les M key) (nI v) 22 0 (mb + 41 + i) = nI (upN M.2.2.1 (les M key) v i) ∧ hset σ1.1 22 0 (mb + 41 + les M key) (nI v) 22 0 (mb + 81 + i) = _
        unfold hset upN
        refine ⟨?_, ?_, ?_⟩
        · rw [if_neg (by omega)]
          exact a1
        · by_cases hil : i = les M key
          · rw [if_pos (by omega), if_pos hil]
          · rw [if_neg (by omega), if_neg hil]
            exact a2
        · rw [if_neg (by omega)]
          exact a3
  · refine G_if rfl (fun q => ?_) (fun q => ?_)
    · refine G_ald rfl mb rfl (by omega) (by decide) ?_
      rw [hI.1]
      refine G_if rfl (fun q2 => ?_) (fun q2 => ?_)
      · have q2 : M.1 < 40 := by
          rcases Nat.lt_or_ge M.1 40 with h | h
          · exact h
          · exact absurd (by rw [show M.1 = 40 by omega]; rfl) q2
        refine G_call rfl (ev_goNew_22 hI hw hlow hm q2 hk) ?_
        rintro r1 σ2 ⟨rfl, h3, h4⟩
        exact G_retZ rfl (Or.inr rfl) (Or.inr (Or.inr ⟨hh, q2, rfl, h4, h3⟩))
      · have q2 : M.1 = 40 := ieq (b := 40) (Classical.not_not.mp q2) (by omega) (by decide)
        exact G_retZ rfl (Or.inl rfl) (Or.inl ⟨hh, by omega, rfl, rfl⟩)
    · exact absurd rfl q
end MO
