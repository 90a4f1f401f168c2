/-! The model's text. -/
def mO (σ : Hp) (O : Nat → Nat) : Prop := ∀ l, l < 6 → σ.1 19 0 (l + 1) = nI (O l)
theorem frT.x {σ σ1 : Hp} {s : Nat} {v : Int32} (h : frT σ σ1) (hs : s ≠ 2 ∧ s ≠ 11 ∧ s ≠ 14 ∧ s < 23) : frT σ (hset σ1.1 6 0 s v, σ1.2) := h.tr ((frS.rf σ1).st hs).t
theorem frT.y {σ σ1 : Hp} {k i s : Nat} {v : Int32} (h : frT σ σ1) (hk0 : k = 19 ∨ k = 20 ∨ k = 22) : frT σ (hset σ1.1 k i s v, σ1.2) := by
  refine ⟨fun k' i' q1 q2 q3 q4 => ?_, fun s' q => ?_, h.2.2⟩
  · show hset σ1.1 k i s v k' i' = _
    rw [hk (by omega)]
    exact h.1 k' i' q1 q2 q3 q4
  · show hset σ1.1 k i s v 6 0 s' = _
    rw [hk (by omega)]
    exact h.2.1 s' q
theorem frT.tx {σ σ' : Hp} {t : TX} (h : frT σ σ') (ht : mTxt σ t) : mTxt σ' t := by
  unfold mTxt at ht ⊢
  rw [h.2.1 2 (by decide), h.1 18 0 (by decide) (by decide) (by decide) (by decide)]
  exact ht
section TX
variable {σ : Hp} {t : TX}
theorem ev_mfigure (ht : mTxt σ t) (hl : t.1 ≤ 64) (h256 : ∀ i, i < t.1 → t.2 i < 256) {p lo hi : Nat} (hp : p ≤ t.1) (hp3 : σ.1 6 0 3 = nI p) (hlo : lo < 256) (hhi : hi < 256) : Ev 94 [rMo, .inl (nI lo), .inl (nI hi)] σ (fun r σ' => (dg t p lo hi ∧ r = some (.inl (nI (t.2 p - 48))) ∧ σ' = (hset σ.1 6 0 3 (nI (p + 1)), σ.2)) ∨ (¬ dg t p lo hi ∧ r = some (.inl (-9)) ∧ σ' = σ)) := by
  refine G_if rfl (fun q => ?_) (fun q => ?_)
  · rw [hp3, ht.1] at q
    have q := ieq q (by omega) (by omega)
    exact G_ret rfl (Or.inr ⟨fun e => by have := e.1; omega, rfl, rfl⟩)
  · rw [hp3, ht.1] at q
    have hpt : p < t.1 := Nat.lt_of_le_of_ne hp (fun e => q (by rw [e]))
    have hc := h256 p hpt
    refine G_ald rfl p hp3 (by omega) (by decide) ?_
    rw [ht.2 p hpt]
    refine G_call rfl (ev_inI _ _ _ _) ?_
    rintro r1 σ1 ⟨rfl, ⟨g, rfl⟩ | ⟨g, rfl⟩⟩
    · rw [fig_ge hc lo hlo, fig_le hc hi hhi] at g
      refine G_if rfl (fun q => ?_) (fun q => absurd (by decide) q)
      refine G_ald rfl p (by
        show σ1.1 6 0 3 + 1 - 1 = _
        rw [hp3, nI_1, nI_pred]) (by omega) (by decide) ?_
      refine G_ret rfl (Or.inl ⟨⟨hpt, g⟩, ?_, ?_⟩)
      · show some (Sum.inl (σ1.1 18 0 p - 48)) = _
        rw [ht.2 p hpt, fig_eq (by omega)]
      · show (hset σ1.1 6 0 3 (σ1.1 6 0 3 + 1), σ1.2) = _
        rw [hp3, nI_1]
    · rw [fig_ge hc lo hlo, fig_le hc hi hhi] at g
      refine G_if rfl (fun q => absurd rfl q) (fun q => ?_)
      exact G_ret rfl (Or.inr ⟨fun e => g e.2, rfl, rfl⟩)
theorem ev_mayCome {O : Nat → Nat} (hO : mO σ O) (hO3 : ∀ l, O l ≤ 3) {h : Nat} (hh : h ≤ 5) : Ev 95 [rMo, .inl (nI h)] σ (fun r σ' => r = some (.inl (ifI (mayO O h))) ∧ σ' = σ) := by
  have loop : ∀ (n l : Nat) (x2 x3 : Int32), l + n = h + 1 → 1 ≤ l → x3 = nI l → x2 = ifI (O h ≠ 3 ∧ ∀ i, i + 1 < l → O i ≠ 0) → RR 95 20 [some rMo, some (.inl (nI h)), some (.inl x2), some (.inl x3)] [] σ (fun r σ' => r = some (.inl (ifI (mayO O h))) ∧ σ' = σ) := by
    intro n
    induction n with
    | zero =>
      intro l x2 x3 hl h1 hx3 hx2
      refine G_if rfl (fun q => ?_) (fun q => ?_)
      · have e : x2 = ifI (mayO O h) := by
          rw [hx2]
          congr 1
          refine propext ⟨fun e => ⟨e.1, fun i hi => e.2 i (by omega)⟩, fun e => ⟨e.1, fun i hi => e.2 i (by omega)⟩⟩
        rw [e]
        exact G_retZ rfl (ifI_z _) ⟨rfl, rfl⟩
      · rw [hx3] at q
        have := nlt q (by omega) (by omega)
        omega
    | succ n ih =>
      intro l x2 x3 hl h1 hx3 hx2
      refine G_if rfl (fun q => ?_) (fun q => ?_)
      · rw [hx3] at q
        have := ilt q (by omega) (by omega)
        omega
      · by_cases e : O h ≠ 3 ∧ ∀ i, i + 1 < l → O i ≠ 0
        · have e1 : x2 = 1 := by rw [hx2]; exact gt_t e
          rw [e1]
          refine G_if rfl (fun q2 => absurd q2 (by decide)) (fun q2 => ?_)
          have ho := hO (l - 1) (by omega)
          rw [show l - 1 + 1 = l by omega] at ho
          have ho3 := hO3 (l - 1)
          refine G_ald rfl l hx3 (by omega) (by decide) ?_
          rw [ho]
          refine G_if rfl (fun q3 => ?_) (fun q3 => ?_)
          · have q3 := ile (b := 0) q3 (by omega) (by decide)
            refine G_to [20] rfl ?_
            refine ih (l + 1) _ _ (by omega) (by omega) (by rw [hx3, nI_1]) ?_
            exact (gt_f (fun e2 => e2.2 (l - 1) (by omega) (by omega))).symm
          · have q3 := nle (b := 0) q3 (by omega) (by decide)
            refine G_to [20] rfl ?_
            refine ih (l + 1) _ _ (by omega) (by omega) (by rw [hx3, nI_1]) ?_
            refine (gt_t ⟨e.1, fun i hi => ?_⟩).symm
            by_cases e2 : i = l - 1
            · rw [e2]
              omega
            · exact e.2 i (by omega)
        · have e1 : x2 = 0 := by rw [hx2]; exact gt_f e
          rw [e1]
          refine G_if rfl (fun q2 => ?_) (fun q2 => absurd rfl q2)
          refine G_to [20] rfl ?_
          refine ih (l + 1) _ _ (by omega) (by omega) (by rw [hx3, nI_1]) ?_
          exact (gt_f (fun e2 => e ⟨e2.1, fun i hi => e2.2 i (by omega)⟩)).symm
  have ho3 := hO3 h
  refine G_ald rfl (h + 1) (nI_1 h) (by omega) (by decide) ?_
  rw [hO h (by omega)]
  refine G_if rfl (fun q => ?_) (fun q => ?_)
  · have q := ile (a := 3) q (by decide) (by omega)
    refine G_to [20] rfl ?_
    exact loop h 1 _ _ (by omega) (by omega) rfl (gt_f (fun e => e.1 (by omega))).symm
  · have q := nle (a := 3) q (by decide) (by omega)
    refine G_to [20] rfl ?_
    exact loop h 1 _ _ (by omega) (by omega) rfl (gt_t ⟨by omega, fun i hi => by omega⟩).symm
/-- what is read so far -/
def mR (σ : Hp) (t : TX) (k : Nat) (O : Nat → Nat) (rh : Nat) : Prop := σ.1 6 0 3 = nI (1 + 3 * k) ∧ σ.1 6 0 5 = nI k ∧ σ.1 6 0 6 = nI rh ∧ mO σ O ∧ ∀ i, i < k → σ.1 20 0 (1 + i) = nI (tK t i) ∧ σ.1 20 0 (41 + i) = nI (tV t i) ∧ σ.1 20 0 (81 + i) = nI (tT t i)
theorem ev_readItem (ht : mTxt σ t) (hl : t.1 ≤ 64) (h256 : ∀ i, i < t.1 → t.2 i < 256) {k rh : Nat} {O : Nat → Nat} (hR : mR σ t k O rh) (hp : PI (tT t) k O rh) (hk0 : 1 + 3 * k < t.1) : Ev 93 [rMo] σ (fun r σ' => frT σ σ' ∧ ((((dg t (1 + 3 * k) 0 5 ∧ mayO O (tT t k)) ∧ dg t (2 + 3 * k) 1 4 ∧ dg t (3 + 3 * k) 0 9) ∧ r = some (.inl 1) ∧ mR σ' t (k + 1) (tkO O (tT t k)) (max rh (tT t k + 1))) ∨ (¬ ((dg t (1 + 3 * k) 0 5 ∧ mayO O (tT t k)) ∧ dg t (2 + 3 * k) 1 4 ∧ dg t (3 + 3 * k) 0 9) ∧ r = some (.inl 0) ∧ σ'.1 6 0 3 = gt (dg t (1 + 3 * k) 0 5 ∧ mayO O (tT t k)) (gt (dg t (2 + 3 * k) 1 4) (nI (3 + 3 * k)) (nI (2 + 3 * k))) (nI (1 + 3 * k))))) := by
  obtain ⟨r3, r5, r6, rO, rM⟩ := hR
  have hg := hp.g
  refine G_call rfl (ev_mfigure ht hl h256 (lo := 0) (hi := 5) (by omega) r3 (by decide) (by decide)) ?_
  rintro r1 σ1 (⟨d1, rfl, rfl⟩ | ⟨d1, rfl, rfl⟩)
  · have hc1 := h256 _ d1.1
    have hT5 : tT t k ≤ 5 := by have := d1.2.2; unfold tT; omega
    have eT : t.2 (1 + 3 * k) - 48 = tT t k := rfl
    rw [eT]
    have ht1 : mTxt (hset σ.1 6 0 3 (nI (1 + 3 * k + 1)), σ.2) t := ((frT.rf σ).x (by decide)).tx ht
    refine G_if rfl (fun q => ?_) (fun q => absurd (Classical.not_not.mp q) (no9 (by omega)))
    refine G_call rfl (ev_mayCome (σ := (hset σ.1 6 0 3 (nI (1 + 3 * k + 1)), σ.2)) (O := O) rO hp.f hT5) ?_
    rintro r1 σ1 ⟨rfl, rfl⟩
    by_cases h2 : mayO O (tT t k)
    · rw [show ifI (mayO O (tT t k)) = 1 from gt_t h2]
      refine G_if rfl (fun q => ?_) (fun q => absurd (by decide) q)
      refine G_call rfl (ev_mfigure ht1 hl h256 (p := 2 + 3 * k) (lo := 1) (hi := 4) (by omega) (by show nI _ = _; congr 1; omega) (by decide) (by decide)) ?_
      rintro r1 σ1 (⟨d2, rfl, rfl⟩ | ⟨d2, rfl, rfl⟩)
      · have hc2 := h256 _ d2.1
        refine G_if rfl (fun q => ?_) (fun q => absurd (Classical.not_not.mp q) (no9 (by omega)))
        have ht2 : mTxt (hset (hset σ.1 6 0 3 (nI (1 + 3 * k + 1))) 6 0 3 (nI (2 + 3 * k + 1)), σ.2) t := (((frT.rf σ).x (by decide)).x (by decide)).tx ht
        refine G_call rfl (ev_mfigure ht2 hl h256 (p := 3 + 3 * k) (lo := 0) (hi := 9) (by have := d2.1; omega) (by show nI _ = _; congr 1; omega) (by decide) (by decide)) ?_
        rintro r1 σ1 (⟨d3, rfl, rfl⟩ | ⟨d3, rfl, rfl⟩)
        · have hc3 := h256 _ d3.1
          refine G_if rfl (fun q => ?_) (fun q => absurd (Classical.not_not.mp q) (no9 (by omega)))
          have loop : ∀ (n l : Nat) (x4 : Int32) (σc : Hp), l + n = tT t k + 1 → 1 ≤ l → x4 = nI l → frT σ σc → σc.1 6 0 3 = nI (4 + 3 * k) → σc.1 6 0 5 = nI k → σc.1 6 0 6 = nI rh → (∀ i, i < 6 → σc.1 19 0 (i + 1) = nI (if i + 1 < l then 0 else O i)) → σc.1 20 = σ.1 20 → RR 93 72 [some rMo, some (.inl (nI (tT t k))), some (.inl (nI (t.2 (2 + 3 * k) - 48))), some (.inl (nI (t.2 (3 + 3 * k) - 48))), some (.inl x4)] [] σc (fun r σ' => frT σ σ' ∧ ((((dg t (1 + 3 * k) 0 5 ∧ mayO O (tT t k)) ∧ dg t (2 + 3 * k) 1 4 ∧ dg t (3 + 3 * k) 0 9) ∧ r = some (.inl 1) ∧ mR σ' t (k + 1) (tkO O (tT t k)) (max rh (tT t k + 1))) ∨ (¬ ((dg t (1 + 3 * k) 0 5 ∧ mayO O (tT t k)) ∧ dg t (2 + 3 * k) 1 4 ∧ dg t (3 + 3 * k) 0 9) ∧ r = some (.inl 0) ∧ σ'.1 6 0 3 = gt (dg t (1 + 3 * k) 0 5 ∧ mayO O (tT t k)) (gt (dg t (2 + 3 * k) 1 4) (nI (3 + 3 * k)) (nI (2 + 3 * k))) (nI (1 + 3 * k))))) := by
            intro n
            induction n with
            | zero =>
              intro l x4 σc hl h1 hx hf c3 c5 c6 cO c20
              have hl : l = tT t k + 1 := hl
              refine G_if rfl (fun q => ?_) (fun q => ?_)
              · have o3 := hp.f (tT t k)
                refine G_ald rfl (tT t k + 1) (nI_1 _) (by omega) (by decide) ?_
                rw [cO _ (by omega), if_neg (by omega)]
                refine G_ast rfl (tT t k + 1) (nI_1 _) (by omega) (by decide) ?_
                have cO2 : ∀ i, i < 6 → hset σc.1 19 0 (tT t k + 1) (nI (O (tT t k)) + 1) 19 0 (i + 1) = nI (tkO O (tT t k) i) := by
                  intro i hi
                  unfold tkO
                  by_cases e : i = tT t k
                  · rw [e, ix_eq0, if_neg (by omega), if_pos rfl, nI_1]
                  · rw [hs_ne (by omega), cO i hi, if_neg e, hl]
                    by_cases e2 : i < tT t k
                    · rw [if_pos e2, if_pos (by omega)]
                    · rw [if_neg e2, if_neg (by omega)]
                have hf2 : frT σ (hset σc.1 19 0 (tT t k + 1) (nI (O (tT t k)) + 1), σc.2) := hf.y (Or.inl rfl)
                have fin : ∀ (σd : Hp), frT σ σd → σd.1 6 0 3 = nI (4 + 3 * k) → σd.1 6 0 5 = nI k → σd.1 6 0 6 = nI (max rh (tT t k + 1)) → mO σd (tkO O (tT t k)) → σd.1 20 = σ.1 20 → RR 93 126 [some rMo, some (.inl (nI (tT t k))), some (.inl (nI (t.2 (2 + 3 * k) - 48))), some (.inl (nI (t.2 (3 + 3 * k) - 48))), some (.inl x4)] [] σd (fun r σ' => frT σ σ' ∧ ((((dg t (1 + 3 * k) 0 5 ∧ mayO O (tT t k)) ∧ dg t (2 + 3 * k) 1 4 ∧ dg t (3 + 3 * k) 0 9) ∧ r = some (.inl 1) ∧ mR σ' t (k + 1) (tkO O (tT t k)) (max rh (tT t k + 1))) ∨ (¬ ((dg t (1 + 3 * k) 0 5 ∧ mayO O (tT t k)) ∧ dg t (2 + 3 * k) 1 4 ∧ dg t (3 + 3 * k) 0 9) ∧ r = some (.inl 0) ∧ σ'.1 6 0 3 = gt (dg t (1 + 3 * k) 0 5 ∧ mayO O (tT t k)) (gt (dg t (2 + 3 * k) 1 4) (nI (3 + 3 * k)) (nI (2 + 3 * k))) (nI (1 + 3 * k))))) := by
                  intro σd fd e3 e5 e6 eO e20
                  have fin2 : ∀ w : Int32, w = nI (tK t k) → RR 93 162 [some rMo, some (.inl (nI (tT t k))), some (.inl (nI (t.2 (2 + 3 * k) - 48))), some (.inl (nI (t.2 (3 + 3 * k) - 48))), some (.inl x4)] [.inl w, .inl (1 + nI k), rP 20] σd (fun r σ' => frT σ σ' ∧ ((((dg t (1 + 3 * k) 0 5 ∧ mayO O (tT t k)) ∧ dg t (2 + 3 * k) 1 4 ∧ dg t (3 + 3 * k) 0 9) ∧ r = some (.inl 1) ∧ mR σ' t (k + 1) (tkO O (tT t k)) (max rh (tT t k + 1))) ∨ (¬ ((dg t (1 + 3 * k) 0 5 ∧ mayO O (tT t k)) ∧ dg t (2 + 3 * k) 1 4 ∧ dg t (3 + 3 * k) 0 9) ∧ r = some (.inl 0) ∧ σ'.1 6 0 3 = gt (dg t (1 + 3 * k) 0 5 ∧ mayO O (tT t k)) (gt (dg t (2 + 3 * k) 1 4) (nI (3 + 3 * k)) (nI (2 + 3 * k))) (nI (1 + 3 * k))))) := by
                    intro w hw
                    refine G_ast rfl (1 + k) (by rw [show (1 : Int32) = nI 1 from rfl, nI_add]) (by omega) (by decide) ?_
                    refine G_ast rfl (41 + k) (by show 41 + σd.1 6 0 5 = _; rw [e5, show (41 : Int32) = nI 41 from rfl, nI_add]) (by omega) (by decide) ?_
                    refine G_ast rfl (81 + k) (by show 81 + σd.1 6 0 5 = _; rw [e5, show (81 : Int32) = nI 81 from rfl, nI_add]) (by omega) (by decide) ?_
                    refine G_retZ rfl (Or.inr rfl) ⟨(((fd.y (by decide)).y (by decide)).y (by decide)).x (by decide), Or.inl ⟨⟨⟨d1, h2⟩, d2, d3⟩, rfl, ?_, ?_, ?_, ?_, ?_⟩⟩
                    · show σd.1 6 0 3 = _
                      rw [e3]
                      congr 1
                      omega
                    · show σd.1 6 0 5 + 1 = _
                      rw [e5, nI_1]
                    · exact e6
                    · exact eO
                    · intro i hi
                      show hset (hset (hset σd.1 20 0 (1 + k) w) 20 0 (41 + k) _) 20 0 (81 + k) _ 20 0 (1 + i) = _ ∧ hset (hset (hset σd.1 20 0 (1 + k) w) 20 0 (41 + k) (nI (tV t k))) 20 0 (81 + k) _ 20 0 (41 + i) = _ ∧ hset (hset (hset σd.1 20 0 (1 + k) w) 20 0 (41 + k) _) 20 0 (81 + k) (nI (tT t k)) 20 0 (81 + i) = _
                      by_cases e : i = k
                      · subst e
                        refine ⟨?_, ?_, ?_⟩
                        · rw [hs_ne (by omega), hs_ne (by omega), ix_eq0, hw]
                        · rw [hs_ne (by omega), ix_eq0]
                        · rw [ix_eq0]
                      · have := rM i (by omega)
                        rw [← e20] at this
                        refine ⟨?_, ?_, ?_⟩
                        · rw [hs_ne (by omega), hs_ne (by omega), hs_ne (by omega), this.1]
                        · rw [hs_ne (by omega), hs_ne (by omega), hs_ne (by omega), this.2.1]
                        · rw [hs_ne (by omega), hs_ne (by omega), hs_ne (by omega), this.2.2]
                  refine G_if rfl (fun q3 => ?_) (fun q3 => ?_)
                  · have hk1 : k ≠ 0 := fun e => q3 (by rw [e5, e]; rfl)
                    refine G_ald rfl (1 + (k - 1)) (by rw [e5, show (1 : Int32) = nI 1 from rfl, nI_add, pk_sub (by omega)]; congr 1; omega) (by omega) (by decide) ?_
                    have hm := (rM (k - 1) (by omega)).1
                    rw [← e20] at hm
                    rw [hm]
                    refine G_to [162] rfl ?_
                    rw [e5]
                    refine fin2 _ ?_
                    rw [nI_add]
                    obtain ⟨k', rfl⟩ : ∃ k', k = k' + 1 := ⟨k - 1, by omega⟩
                    rfl
                  · have hk1 : k = 0 := by
                      have q3 := Classical.not_not.mp q3
                      rw [e5] at q3
                      exact ieq (b := 0) q3 (by omega) (by decide)
                    refine G_to [162] rfl ?_
                    rw [e5]
                    refine fin2 _ ?_
                    subst hk1
                    rfl
                refine G_if rfl (fun q2 => ?_) (fun q2 => ?_)
                · have q2 : nI (tT t k) < σc.1 6 0 6 := q2
                  rw [c6] at q2
                  have q2 := ilt q2 (by omega) (by omega)
                  refine G_to [126] rfl ?_
                  refine fin _ (hf2.x (by decide)) c3 c5 ?_ cO2 c20
                  show σc.1 6 0 6 = _
                  rw [c6, Nat.max_eq_left (by omega)]
                · have q2 : ¬ nI (tT t k) < σc.1 6 0 6 := q2
                  rw [c6] at q2
                  have q2 := nlt q2 (by omega) (by omega)
                  refine G_to [126] rfl ?_
                  refine fin _ (hf2.x (by decide)) c3 c5 ?_ cO2 c20
                  show nI (tT t k) + 1 = _
                  rw [nI_1, Nat.max_eq_right (by omega)]
              · rw [hx, hl] at q
                exact absurd (nI_lt (by omega) (by omega)) q
            | succ n ih =>
              intro l x4 σc hl h1 hx hf c3 c5 c6 cO c20
              refine G_if rfl (fun q => ?_) (fun q => ?_)
              · rw [hx] at q
                have := ilt q (by omega) (by omega)
                omega
              · refine G_ast rfl l hx (by omega) (by decide) ?_
                refine G_to [72] rfl ?_
                refine ih (l + 1) _ _ (by omega) (by omega) (by rw [hx, nI_1]) (hf.y (by decide)) c3 c5 c6 (fun i hi => ?_) c20
                show hset σc.1 19 0 l 0 19 0 (i + 1) = _
                by_cases e : i + 1 = l
                · rw [e, ix_eq0, if_pos (by omega)]
                  rfl
                · rw [hs_ne e, cO i hi]
                  by_cases e2 : i + 1 < l
                  · rw [if_pos e2, if_pos (by omega)]
                  · rw [if_neg e2, if_neg (by omega)]
          refine G_to [72] rfl ?_
          refine loop (tT t k) 1 _ _ (by omega) (by omega) rfl ((((frT.rf σ).x (by decide)).x (by decide)).x (by decide)) ?_ r5 r6 (fun i hi => by rw [if_neg (by omega)]; exact rO i hi) rfl
          show nI (3 + 3 * k + 1) = _
          congr 1
          omega
        · refine G_if rfl (fun q => absurd rfl q) (fun q => ?_)
          refine G_retZ rfl (Or.inl rfl) ⟨((frT.rf σ).x (by decide)).x (by decide), Or.inr ⟨fun e => d3 e.2.2, rfl, ?_⟩⟩
          rw [gt_t ⟨d1, h2⟩, gt_t d2]
          show nI (2 + 3 * k + 1) = _
          congr 1
          omega
      · refine G_if rfl (fun q => absurd rfl q) (fun q => ?_)
        refine G_if rfl (fun q => absurd rfl q) (fun q => ?_)
        refine G_retZ rfl (Or.inl rfl) ⟨(frT.rf σ).x (by decide), Or.inr ⟨fun e => d2 e.2.1, rfl, ?_⟩⟩
        rw [gt_t ⟨d1, h2⟩, gt_f d2]
        show nI (1 + 3 * k + 1) = _
        congr 1
        omega
    · rw [show ifI (mayO O (tT t k)) = 0 from gt_f h2]
      refine G_if rfl (fun q => absurd rfl q) (fun q => ?_)
      refine G_retZ rfl (Or.inl rfl) ⟨((frT.rf σ).x (by decide)).x (by decide), Or.inr ⟨fun e => h2 e.1.2, rfl, ?_⟩⟩
      rw [gt_f (fun e => h2 e.2)]
      show nI (1 + 3 * k + 1) - 1 = _
      rw [nI_pred]
  · refine G_if rfl (fun q => absurd rfl q) (fun q => ?_)
    refine G_retZ rfl (Or.inl rfl) ⟨frT.rf _, Or.inr ⟨fun e => d1 e.1.1, rfl, ?_⟩⟩
    rw [gt_f (fun e => d1 e.1)]
    exact r3
end TX
