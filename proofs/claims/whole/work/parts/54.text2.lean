/-! The class's text: its first fault, what it tells. -/
section RU
variable {y pc pc' nxt : Nat} {ls ls' : Lc} {stk stk' r : List PV} {σ σ' : Hp} {Q Q' : Option PV → Hp → Prop}
def lkq (y pc : Nat) (stk : List PV) : Option (Int32 × (List (Int × Int) × (List Nat × (Nat × List PV)))) := match fetch y pc with
  | some (_, .lookupswitch _ ps, _, a, _, sw, _) => match stk with
    | .inl x :: r => some (x, ps.toList, sw, a, r)
    | _ => none
  | _ => none
theorem RR_lk {x : Int32} {ps : List (Int × Int)} {sw : List Nat} {a : Nat} (h : lkq y pc stk = some (x, ps, sw, a, r)) (k : RR y (lkT x ps sw a) ls r σ Q) : RR y pc ls stk σ Q := by
  unfold lkq at h
  split at h
  · next he =>
    split at h
    · cases h
      exact RR_step he (by simp only [xexec]; rfl) k
    · cases h
  · cases h
def glk (y pc : Nat) (ls : Lc) (stk : List PV) (σ : Hp) : Option ((Int32 × (List (Int × Int) × (List Nat × (Nat × List PV)))) × (Lc × Hp)) := match go y [] 80 pc ls stk σ with
  | none => none
  | some (pc', ls', stk', σ') => match lkq y pc' stk' with
    | none => none
    | some q => some (q, ls', σ')
theorem G_lk {x : Int32} {ps : List (Int × Int)} {sw : List Nat} {a : Nat} (h : glk y pc ls stk σ = some ((x, ps, sw, a, r), ls', σ')) (t : Nat) (ht : lkT x ps sw a = t) (k : RR y t ls' r σ' Q) : RR y pc ls stk σ Q := by
  subst ht
  unfold glk at h
  split at h
  · cases h
  · next h1 =>
    split at h
    · cases h
    · next h2 =>
      cases h
      exact RR_go0 80 h1 (RR_lk h2 k)
end RU
section TX
variable {σ : Hp} {t : TX}
theorem ev_fits1 (ht : cTxt σ t) (hl : t.1 ≤ 64) (h256 : ∀ i, i < t.1 → t.2 i < 256) {O : Nat → Nat} (hO : cO σ O) (hO3 : ∀ l, O l ≤ 3) {k : Nat} (hp : 1 + 3 * k < t.1) : Ev 37 [rX, .inl (nI (1 + 3 * k))] σ (fun r σ' => ((dg t (1 + 3 * k) 0 5 ∧ mayO O (tT t k)) ∧ r = some (.inl 1) ∧ cO σ' (tkO O (tT t k)) ∧ fr14 σ σ') ∨ (¬ (dg t (1 + 3 * k) 0 5 ∧ mayO O (tT t k)) ∧ r = some (.inl 0) ∧ fr14 σ σ')) := by
  refine G_call rfl (ev_figure ht hl hp) ?_
  rintro r1 σ1 ⟨rfl, rfl⟩
  refine G_div rfl (by decide) ?_
  rw [show (3 : Int32) = nI 3 from rfl, jr (by omega) (by decide) (by decide), show (1 + 3 * k) % 3 = 1 by omega]
  refine G_lk rfl 36 rfl ?_
  refine G_call rfl (ev_takesHeight hO hO3 (h256 _ hp)) ?_
  rintro r1 σ2 (⟨h1, rfl, h2, h3⟩ | ⟨h1, rfl, h3⟩)
  · exact G_retZ rfl (Or.inr rfl) (Or.inl ⟨⟨⟨hp, by omega, by omega⟩, h1.2⟩, rfl, h2, h3⟩)
  · exact G_retZ rfl (Or.inl rfl) (Or.inr ⟨fun e => h1 ⟨⟨by have := e.1.2.1; omega, by have := e.1.2.2; omega⟩, e.2⟩, rfl, h3⟩)
theorem ev_fits2 (ht : cTxt σ t) (hl : t.1 ≤ 64) (h256 : ∀ i, i < t.1 → t.2 i < 256) {k : Nat} (hp : 2 + 3 * k < t.1) : Ev 37 [rX, .inl (nI (2 + 3 * k))] σ (fun r σ' => σ' = σ ∧ ((dg t (2 + 3 * k) 1 4 ∧ r = some (.inl 1)) ∨ (¬ dg t (2 + 3 * k) 1 4 ∧ r = some (.inl 0)))) := by
  have hc := h256 _ hp
  refine G_call rfl (ev_figure ht hl hp) ?_
  rintro r1 σ1 ⟨rfl, rfl⟩
  refine G_div rfl (by decide) ?_
  rw [show (3 : Int32) = nI 3 from rfl, jr (by omega) (by decide) (by decide), show (2 + 3 * k) % 3 = 2 by omega]
  refine G_lk rfl 42 rfl ?_
  refine G_if rfl (fun q => ?_) (fun q => ?_)
  · have q := (fig_lt hc 1 (by decide)).mp q
    exact G_retZ rfl (Or.inl rfl) ⟨rfl, Or.inr ⟨fun e => by have := e.2.1; omega, rfl⟩⟩
  · have q : 48 + 1 ≤ t.2 (2 + 3 * k) := by
      rcases Nat.lt_or_ge (t.2 (2 + 3 * k)) (48 + 1) with h | h
      · exact absurd ((fig_lt hc 1 (by decide)).mpr h) q
      · exact h
    refine G_if rfl (fun q2 => ?_) (fun q2 => ?_)
    · exact G_retZ rfl (Or.inl rfl) ⟨rfl, Or.inr ⟨fun e => absurd ((fig_le hc 4 (by decide)).mpr e.2.2) (Int32.not_le.mpr q2), rfl⟩⟩
    · exact G_retZ rfl (Or.inr rfl) ⟨rfl, Or.inl ⟨⟨hp, q, (fig_le hc 4 (by decide)).mp (Int32.not_lt.mp q2)⟩, rfl⟩⟩
theorem ev_fits3 (ht : cTxt σ t) (hl : t.1 ≤ 64) (h256 : ∀ i, i < t.1 → t.2 i < 256) {k : Nat} (hp : 3 + 3 * k < t.1) : Ev 37 [rX, .inl (nI (3 + 3 * k))] σ (fun r σ' => σ' = σ ∧ ((dg t (3 + 3 * k) 0 9 ∧ r = some (.inl 1)) ∨ (¬ dg t (3 + 3 * k) 0 9 ∧ r = some (.inl 0)))) := by
  have hc := h256 _ hp
  refine G_call rfl (ev_figure ht hl hp) ?_
  rintro r1 σ1 ⟨rfl, rfl⟩
  refine G_div rfl (by decide) ?_
  rw [show (3 : Int32) = nI 3 from rfl, jr (by omega) (by decide) (by decide), show (3 + 3 * k) % 3 = 0 by omega]
  refine G_lk rfl 58 rfl ?_
  refine G_if rfl (fun q => ?_) (fun q => ?_)
  · have q := (fig_lt hc 0 (by decide)).mp q
    exact G_retZ rfl (Or.inl rfl) ⟨rfl, Or.inr ⟨fun e => by have := e.2.1; omega, rfl⟩⟩
  · have q : 48 + 0 ≤ t.2 (3 + 3 * k) := by
      rcases Nat.lt_or_ge (t.2 (3 + 3 * k)) (48 + 0) with h | h
      · exact absurd ((fig_lt hc 0 (by decide)).mpr h) q
      · exact h
    refine G_if rfl (fun q2 => ?_) (fun q2 => ?_)
    · exact G_retZ rfl (Or.inl rfl) ⟨rfl, Or.inr ⟨fun e => absurd ((fig_le hc 9 (by decide)).mpr e.2.2) (Int32.not_le.mpr q2), rfl⟩⟩
    · exact G_retZ rfl (Or.inr rfl) ⟨rfl, Or.inl ⟨⟨hp, q, (fig_le hc 9 (by decide)).mp (Int32.not_lt.mp q2)⟩, rfl⟩⟩
theorem ev_firstFault (ht : cTxt σ t) (hl : t.1 ≤ 64) (h256 : ∀ i, i < t.1 → t.2 i < 256) : Ev 36 [rX] σ (fun r σ' => r = some (.inl (faultF t)) ∧ fr14 σ σ') := by
  unfold faultF
  have l2 : ∀ (n k rh : Nat) (O : Nat → Nat) (σc : Hp) (x1 : Int32), 22 ≤ k + n → 1 + 3 * k ≤ t.1 → x1 = nI (1 + 3 * k) → PI (tT t) k O rh → cO σc O → fr14 σ σc → RR 36 42 [some rX, some (.inl x1)] [] σc (fun r σ' => r = some (.inl (rdF t n k O)) ∧ fr14 σ σ') := by
    intro n
    induction n with
    | zero =>
      intro k rh O σc x1 hn hk hx hp hO hf
      omega
    | succ n ih =>
      intro k rh O σc x1 hn hk hx hp hO hf
      have htc := hf.t ht
      have hlen : σc.1 4 0 2 = nI t.1 := htc.1
      unfold rdF
      by_cases h1 : 1 + 3 * k = t.1
      · rw [gt_t h1]
        refine G_if rfl (fun q => ?_) (fun q => ?_)
        · refine G_div rfl (by decide) ?_
          rw [hlen, show (3 : Int32) = nI 3 from rfl, jr (by omega) (by decide) (by decide), show t.1 % 3 = 1 by omega]
          refine G_if rfl (fun q2 => absurd rfl q2) (fun q2 => ?_)
          refine G_call rfl (ev_isClosed hO hp.f) ?_
          rintro r1 σ1 ⟨rfl, ⟨h2, rfl⟩ | ⟨h2, rfl⟩⟩
          · rw [gt_t h2]
            refine G_if rfl (fun q3 => absurd q3 (by decide)) (fun q3 => ?_)
            exact G_ret rfl ⟨rfl, hf⟩
          · rw [gt_f h2]
            refine G_if rfl (fun q3 => ?_) (fun q3 => absurd rfl q3)
            exact G_ret rfl ⟨by rw [hlen], hf⟩
        · rw [hx, hlen, h1] at q
          exact absurd (nI_le (Nat.le_refl _) (by omega)) q
      · rw [gt_f h1]
        have hlt : 1 + 3 * k < t.1 := by omega
        refine G_if rfl (fun q => ?_) (fun q => ?_)
        · rw [hx, hlen] at q
          exact absurd (ile q (by omega) (by omega)) (by omega)
        · refine G_callv rfl (by rw [hx]) (ev_fits1 htc hl h256 hO hp.f hlt) ?_
          rintro r1 σ1 (⟨h2, rfl, hO1, f1⟩ | ⟨h2, rfl, f1⟩)
          · rw [gt_t h2]
            have ht1 := f1.t htc
            have hlen1 : σ1.1 4 0 2 = nI t.1 := ht1.1
            have hf1 := hf.tr f1
            refine G_if rfl (fun q2 => ?_) (fun q2 => absurd (by decide) q2)
            have hx2 : x1 + 1 = nI (2 + 3 * k) := by rw [hx, nI_1]; congr 1; omega
            have hx3 : x1 + 1 + 1 = nI (3 + 3 * k) := by rw [hx2, nI_1]; congr 1; omega
            refine G_if rfl (fun q3 => ?_) (fun q3 => ?_)
            · have q3 : x1 + 1 ≥ σ1.1 4 0 2 := q3
              rw [hx2, hlen1] at q3
              have q3 := ile q3 (by omega) (by omega)
              rw [gt_f (fun e => by have := e.1; omega)]
              refine G_div rfl (by decide) ?_
              rw [hlen1, show (3 : Int32) = nI 3 from rfl, jr (by omega) (by decide) (by decide), show t.1 % 3 = 2 by omega]
              refine G_if rfl (fun q4 => ?_) (fun q4 => absurd (by decide) q4)
              exact G_ret rfl ⟨by rw [hlen1, show t.1 = 2 + 3 * k by omega], hf1⟩
            · have q3 : ¬ σ1.1 4 0 2 ≤ x1 + 1 := q3
              rw [hx2, hlen1] at q3
              have q3 := nle q3 (by omega) (by omega)
              refine G_callv rfl (by show [_, Sum.inl (x1 + 1)] = _; rw [hx2]) (ev_fits2 ht1 hl h256 q3) ?_
              rintro r1 σ2 ⟨rfl, ⟨h3, rfl⟩ | ⟨h3, rfl⟩⟩
              · rw [gt_t h3]
                refine G_if rfl (fun q2 => ?_) (fun q2 => absurd (by decide) q2)
                refine G_if rfl (fun q4 => ?_) (fun q4 => ?_)
                · have q4 : x1 + 1 + 1 ≥ σ2.1 4 0 2 := q4
                  rw [hx3, hlen1] at q4
                  have q4 := ile q4 (by omega) (by omega)
                  rw [gt_f (fun e => by have := e.1; omega)]
                  refine G_div rfl (by decide) ?_
                  rw [hlen1, show (3 : Int32) = nI 3 from rfl, jr (by omega) (by decide) (by decide), show t.1 % 3 = 0 by omega]
                  refine G_if rfl (fun q4 => ?_) (fun q4 => absurd (by decide) q4)
                  exact G_ret rfl ⟨by rw [hlen1, show t.1 = 3 + 3 * k by omega], hf1⟩
                · have q4 : ¬ σ2.1 4 0 2 ≤ x1 + 1 + 1 := q4
                  rw [hx3, hlen1] at q4
                  have q4 := nle q4 (by omega) (by omega)
                  refine G_callv rfl (by show [_, Sum.inl (x1 + 1 + 1)] = _; rw [hx3]) (ev_fits3 ht1 hl h256 q4) ?_
                  rintro r1 σ3 ⟨rfl, ⟨h4, rfl⟩ | ⟨h4, rfl⟩⟩
                  · rw [gt_t h4]
                    refine G_if rfl (fun q2 => ?_) (fun q2 => absurd (by decide) q2)
                    refine G_to [42] rfl ?_
                    refine ih (k + 1) _ _ _ _ (by omega) (by omega) (by show x1 + 1 + 1 + 1 = _; rw [hx3, nI_1]; congr 1; omega) (hp.s ?_ h2.2) hO1 hf1
                    have := h2.1.2.2
                    unfold tT
                    omega
                  · rw [gt_f h4]
                    refine G_if rfl (fun q2 => absurd rfl q2) (fun q2 => ?_)
                    exact G_ret rfl ⟨by show some (Sum.inl (x1 + 1 + 1)) = _; rw [hx3], hf1⟩
              · rw [gt_f h3]
                refine G_if rfl (fun q2 => absurd rfl q2) (fun q2 => ?_)
                exact G_ret rfl ⟨by show some (Sum.inl (x1 + 1)) = _; rw [hx2], hf1⟩
          · rw [gt_f h2]
            refine G_if rfl (fun q2 => absurd rfl q2) (fun q2 => ?_)
            exact G_ret rfl ⟨by rw [hx], hf.tr f1⟩
  have l1 : ∀ (n i : Nat) (σc : Hp) (x1 : Int32), i + n = 6 → x1 = nI i → (∀ l, l < i → σc.1 14 0 l = nI 0) → fr14 σ σc → 1 ≤ t.1 → RR 36 22 [some rX, some (.inl x1)] [] σc (fun r σ' => r = some (.inl (rdF t 22 0 (fun _ => 0))) ∧ fr14 σ σ') := by
    intro n
    induction n with
    | zero =>
      intro i σc x1 hi hx hz hf h1
      refine G_if rfl (fun q => ?_) (fun q => ?_)
      · refine G_to [42] rfl ?_
        exact l2 22 0 0 _ σc _ (by omega) (by omega) rfl (PI.z _) (fun l hl => hz l (by omega)) hf
      · rw [hx] at q
        have := nlt (a := 5) q (by decide) (by omega)
        omega
    | succ n ih =>
      intro i σc x1 hi hx hz hf h1
      refine G_if rfl (fun q => ?_) (fun q => ?_)
      · rw [hx] at q
        have := ilt (a := 5) q (by decide) (by omega)
        omega
      · refine G_ast rfl i hx (by omega) (by decide) ?_
        refine G_to [22] rfl ?_
        refine ih (i + 1) _ _ (by omega) (by rw [hx, nI_1]) (fun l hl => ?_) hf.st h1
        show hset σc.1 14 0 i 0 14 0 l = _
        by_cases e : l = i
        · rw [e, ix_eq0]
          rfl
        · rw [hs_ne e]
          exact hz l (by omega)
  refine G_if rfl (fun q => ?_) (fun q => ?_)
  · rw [ht.1] at q
    rw [gt_t (Or.inl (ieq (b := 0) q (by omega) (by decide)))]
    exact G_ret rfl ⟨rfl, fr14.rf _⟩
  · rw [ht.1] at q
    have h0 : t.1 ≠ 0 := fun e => q (by rw [e]; rfl)
    refine G_ald rfl 0 rfl (by omega) (by decide) ?_
    rw [ht.2 0 (by omega)]
    have hc := h256 0 (by omega)
    refine G_if rfl (fun q2 => ?_) (fun q2 => ?_)
    · have q2 := ieq (b := 76) q2 (by omega) (by decide)
      rw [gt_f (fun e => by omega)]
      refine G_to [22] rfl ?_
      exact l1 6 0 σ _ rfl nI_0.symm (fun l hl => by omega) (fr14.rf _) (by omega)
    · rw [gt_t (Or.inr (fun e => q2 (by rw [e]; rfl)))]
      exact G_ret rfl ⟨rfl, fr14.rf _⟩
theorem isI_cg {σ : Hp} {j : Nat} {M M' : AM} (h : isI σ j M) (h1 : M'.1 = M.1) (h2 : ∀ i, i < M.1 → M'.2.1 i = M.2.1 i ∧ M'.2.2.1 i = M.2.2.1 i ∧ M'.2.2.2 i = M.2.2.2 i) : isI σ j M' := by
  refine ⟨by rw [h1]; exact h.1, fun i hi => ?_⟩
  rw [h1] at hi
  obtain ⟨a1, a2, a3⟩ := h2 i hi
  rw [a1, a2, a3]
  exact h.2 i hi
theorem ev_tellTo (ht : cTxt σ t) (hl : t.1 ≤ 64) {n : Nat} (hT : okT t n) (j : Nat) : Ev 41 [rX, rI j] σ (fun r σ' => r = none ∧ isI σ' j (shM t n) ∧ frI j σ σ') := by
  have hlen := hT.1
  have loop : ∀ (m i : Nat) (σc : Hp) (x2 x3 : Int32), i + m = n → x2 = nI (match i with | 0 => 0 | i + 1 => tK t i) → x3 = nI (1 + 3 * i) → isI σc j (shM t i) → frI j σ σc → RR 41 9 [some rX, some (rI j), some (.inl x2), some (.inl x3)] [] σc (fun r σ' => r = none ∧ isI σ' j (shM t n) ∧ frI j σ σ') := by
    intro m
    induction m with
    | zero =>
      intro i σc x2 x3 hi hx2 hx3 hI hf
      have hlc : σc.1 4 0 2 = nI t.1 := by rw [show σc.1 4 0 = σ.1 4 0 from hf.1 4 0 (by omega)]; exact ht.1
      have hi : i = n := hi
      subst hi
      refine G_if rfl (fun q => ?_) (fun q => ?_)
      · exact G_ret rfl ⟨rfl, hI, hf⟩
      · rw [hx3, hlc, show (2 : Int32) = nI 2 from rfl, nI_add] at q
        have := nle q (by omega) (by omega)
        omega
    | succ m ih =>
      intro i σc x2 x3 hi hx2 hx3 hI hf
      have htc : cTxt σc t := by
        unfold cTxt at ht ⊢
        rw [show σc.1 4 0 = σ.1 4 0 from hf.1 4 0 (by omega), show σc.1 13 0 = σ.1 13 0 from hf.1 13 0 (by omega)]
        exact ht
      obtain ⟨d1, d2, d3⟩ := hT.2 i (by omega)
      refine G_if rfl (fun q => ?_) (fun q => ?_)
      · rw [hx3, htc.1, show (2 : Int32) = nI 2 from rfl, nI_add] at q
        have := ile q (by omega) (by omega)
        omega
      · refine G_callv rfl (by rw [hx3, nI_1, show 1 + 3 * i + 1 = 2 + 3 * i by omega]) (ev_figure htc hl d2.1) ?_
        rintro r1 σ1 ⟨rfl, rfl⟩
        have hk : x2 + (nI (t.2 (2 + 3 * i)) - 48) = nI (tK t i) := by
          rw [fig_eq (by have := d2.2.1; omega), hx2, nI_add]
          cases i with
          | zero => rw [Nat.zero_add]; rfl
          | succ i => rfl
        refine G_callv rfl (by rw [hx3, show (2 : Int32) = nI 2 from rfl, nI_add, show 1 + 3 * i + 2 = 3 + 3 * i by omega]) (ev_figure htc hl d3.1) ?_
        rintro r1 σ1 ⟨rfl, rfl⟩
        refine G_callv rfl (by rw [hx3]) (ev_figure htc hl d1.1) ?_
        rintro r1 σ1 ⟨rfl, rfl⟩
        refine G_callv rfl (by rw [hk, fig_eq (by have := d3.2.1; omega), fig_eq (by have := d1.2.1; omega)]; rfl) (ev_add hI (k := tK t i) (v := tV t i) (h := tT t i) (by show i < 40; omega)) ?_
        rintro r1 σ2 ⟨rfl, hI2, f2⟩
        refine G_to [9] rfl ?_
        refine ih (i + 1) _ _ _ (by omega) hk (by rw [hx3, show (3 : Int32) = nI 3 from rfl, nI_add]; rfl) (isI_cg hI2 rfl (fun y hy => ?_)) (hf.tr f2)
        have hy : y < i + 1 := hy
        show tK t y = (if y < i then tK t y else if y = i then tK t i else tK t (y - 1)) ∧ tV t y = (if y < i then tV t y else if y = i then tV t i else tV t (y - 1)) ∧ tT t y = (if y < i then tT t y else if y = i then tT t i else tT t (y - 1))
        by_cases e : y < i
        · rw [if_pos e, if_pos e, if_pos e]
          exact ⟨rfl, rfl, rfl⟩
        · have e2 : y = i := by omega
          subst e2
          rw [if_neg e, if_neg e, if_neg e, if_pos rfl, if_pos rfl, if_pos rfl]
          exact ⟨rfl, rfl, rfl⟩
  refine G_to [9] rfl ?_
  refine loop n 0 _ _ _ (by omega) nI_0.symm rfl ⟨?_, fun i hi => by cases hi⟩ ((frI.rf j σ).st (by decide))
  show hset σ.1 2 j 3 0 2 j 3 = _
  rw [ix_eq0]
  rfl
end TX
theorem c_fault {S : SS} (hS : SI S) : CSpec 44 [] S (.inl (faultF S.2.2.2.1)) S := by
  intro σ hC
  refine G_call rfl (ev_firstFault hC.2.2.2.1 hS.2.2.2.1.1 hS.2.2.2.1.2) ?_
  rintro r1 σ1 ⟨rfl, f1⟩
  exact G_ret rfl ⟨rfl, f1.cs hC, f1.m⟩
noncomputable def fShape (S : SS) (x : Int32) : Int32 := gt (okM x) (gt (faultF S.2.2.2.1 = -9) (nI ((S.2.2.2.1.1 - 1) / 3)) (-3)) (-1)
noncomputable def nShape (S : SS) (x : Int32) : SS := gt (okM x) (gt (faultF S.2.2.2.1 = -9) (upB S.1 x.toNatClampNeg (shM S.2.2.2.1 ((S.2.2.2.1.1 - 1) / 3)), pushH S.2.1 S.1, S.2.2) S) S
theorem SI.shape {S : SS} (hS : SI S) (x : Int32) : SI (nShape S x) := by
  unfold nShape
  by_cases h : okM x
  · rw [gt_t h]
    by_cases h2 : faultF S.2.2.2.1 = -9
    · rw [gt_t h2]
      obtain ⟨m, hm, rfl⟩ := okM_nat h
      rw [nI_clamp (by omega)]
      exact hS.push.now (hS.1.up hm (faultF_ok hS.2.2.2.1.1 h2).2)
    · rw [gt_f h2]; exact hS
  · rw [gt_f h]; exact hS
theorem c_shape {S : SS} (hS : SI S) (x : Int32) : CSpec 45 [.inl x] S (.inl (fShape S x)) (nShape S x) := by
  intro σ hC
  unfold fShape nShape
  refine G_call rfl (ev_isMap x σ) ?_
  rintro r1 σ1 ⟨rfl, ⟨h1, rfl⟩ | ⟨h1, rfl⟩⟩
  · have h1 : okM x := h1
    refine G_if rfl (fun q => ?_) (fun q => absurd (by decide) q)
    rw [gt_t h1, gt_t h1]
    refine G_call rfl (ev_firstFault hC.2.2.2.1 hS.2.2.2.1.1 hS.2.2.2.1.2) ?_
    rintro r1 σ2 ⟨rfl, f2⟩
    have hC2 := f2.cs hC
    refine G_if rfl (fun q2 => ?_) (fun q2 => ?_)
    · rw [gt_t q2, gt_t q2]
      obtain ⟨m, hm, rfl⟩ := okM_nat h1
      rw [nI_clamp (by omega)]
      refine G_call rfl (ev_remember hC2 hS) ?_
      rintro r1 σ5 ⟨rfl, hC5, m5⟩
      refine G_call rfl (ev_of 0 hm σ5) ?_
      rintro r1 σ6 ⟨rfl, rfl⟩
      refine G_call rfl (ev_tellTo hC5.2.2.2.1 hS.2.2.2.1.1 (faultF_ok hS.2.2.2.1.1 q2).1 (2 * 0 + m)) ?_
      rintro r1 σ7 ⟨rfl, i7, f7⟩
      exact G_ret rfl ⟨by rw [i7.1]; rfl, hC5.now (f7.n (by omega)) (hC5.1.up hm i7 f7), (f2.m.tr m5).tr f7.m⟩
    · rw [gt_f q2, gt_f q2]
      exact G_ret rfl ⟨rfl, hC2, f2.m⟩
  · have h1 : ¬ okM x := h1
    refine G_if rfl (fun q => absurd rfl q) (fun q => ?_)
    rw [gt_f h1, gt_f h1]
    exact G_ret rfl ⟨rfl, hC, mEq.rf _⟩
