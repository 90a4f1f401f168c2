/-! Items: a key put in, taken out. -/
def partL (n p : Nat) : Nat → (Nat → Nat) → (Nat → Nat)
  | 0, T => T
  | l + 1, T => partL n p l (partF n T (l + 1) p)
def helpL (n p : Nat) : Nat → (Nat → Nat) → (Nat → Nat)
  | 0, T => T
  | l + 1, T => helpL n p l (helpF n T (l + 1) p)
theorem partF_le {n l p b : Nat} {T : Nat → Nat} (hl : l ≤ b) (hp : p ≤ n) (h : ∀ i, i < n → T i ≤ b) (h1 : 1 ≤ l) : ∀ i, i < n → partF n T l p i ≤ b := by
  intro i hi
  unfold partF
  split
  · next hc =>
    have ha := ahF_le T l p
    have hb := bhF_le T l hp
    obtain ⟨n1, n2, n3⟩ := nthF_in T (l - 1) (bhF n T l p - ahF T l p) (ahF T l p) 2 (by decide) (by omega)
    unfold upN
    split
    · omega
    · exact h i hi
  · exact h i hi
theorem helpF_le {n l p b : Nat} {T : Nat → Nat} (hl : l ≤ b) (hp : p ≤ n) (h : ∀ i, i < n → T i ≤ b) (h1 : 1 ≤ l) : ∀ i, i < n → helpF n T l p i ≤ b := by
  intro i hi
  have hi2 := h i hi
  unfold helpF
  split
  · split
    · next hc hq =>
      unfold helpB hB1
      have hb := bhF_le T l (show bhF n T l p + 1 ≤ n by omega)
      split
      · next hc2 =>
        obtain ⟨n1, n2, n3⟩ := nthF_in T (l - 1) (bhF n T l (bhF n T l p + 1) - (bhF n T l p + 1)) (bhF n T l p + 1) 1 (by decide) (by omega)
        have hfi := h _ hq.1
        unfold upN
        split
        · rw [if_neg (by omega)]
          omega
        · split <;> omega
      · have hfi := h _ hq.1
        unfold upN
        split <;> omega
    · split
      · next hc hq ha =>
        have hap := ahF_le T l p
        have hfi := h (ahF T l p - 1) (by omega)
        have hfa := ahF_le T l (ahF T l p - 1)
        unfold helpA hA1
        split
        · next hc2 =>
          obtain ⟨n1, n2, n3⟩ := nthF_in T (l - 1) (ahF T l p - 1 - ahF T l (ahF T l p - 1)) (ahF T l (ahF T l p - 1)) (cntF T (l - 1) (ahF T l p - 1 - ahF T l (ahF T l p - 1)) (ahF T l (ahF T l p - 1))) (by omega) (by omega)
          unfold upN
          split
          · rw [if_neg (by omega)]
            omega
          · split <;> omega
        · unfold upN
          split <;> omega
      · exact hi2
  · exact hi2
def placeM (M : AM) (key v : Nat) : AM := insM (setT M (partL M.1 (les M key) (topF M.2.2.2 M.1) M.2.2.2)) (les M key) key v 0
def setV (M : AM) (p v : Nat) : AM := (M.1, M.2.1, upN M.2.2.1 p v, M.2.2.2)
def outP (M : AM) (p : Nat) : Nat := if 0 < M.2.2.2 p ∧ p + 1 < M.1 then p + 1 else p
def outM (M : AM) (p : Nat) : AM := (M.1 - 1, delF M.2.1 p, delF M.2.2.1 p, delF (helpL M.1 (outP M p) (topF M.2.2.2 M.1 - 1) M.2.2.2) (outP M p))
theorem del_swp (f : Nat → Nat) (p : Nat) : delF (swpF f p) (p + 1) = delF f p := by
  funext i
  unfold delF swpF
  rcases Nat.lt_trichotomy i p with h | h | h
  · rw [if_pos (by omega), if_neg (by omega), if_neg (by omega), if_pos h]
  · subst h
    simp
  · rw [if_neg (by omega), if_neg (by omega), if_neg (by omega), if_neg (by omega)]
/-- heights are less than 40 -/
def lowM (M : AM) : Prop := ∀ i, i < M.1 → M.2.2.2 i < 40
theorem low_top {M : AM} (h : lowM M) : topF M.2.2.2 M.1 ≤ 40 := topF_le _ h
section IT
variable {σ : Hp} {j : Nat} {M : AM}
theorem ev_place (hI : isI σ j M) (hw : wfM M) (hlow : lowM M) {key v : Nat} (hk : key < 100) (hv : v < 1000000) : Ev 11 [rI j, .inl (nI key), .inl (nI v)] σ (fun r σ' => (¬ has M key ∧ 40 ≤ M.1 ∧ r = some (.inl 0) ∧ σ' = σ) ∨ (has M key ∧ r = some (.inl 1) ∧ isI σ' j (setV M (les M key) v) ∧ frI j σ σ') ∨ (¬ has M key ∧ M.1 < 40 ∧ r = some (.inl 1) ∧ isI σ' j (placeM M key v) ∧ frI j σ σ')) := by
  have hn := hw.1
  have hle := les_le M key
  have htop := low_top hlow
  refine G_call rfl (ev_lesser hI hw (by omega)) ?_
  rintro r1 σ1 ⟨rfl, rfl⟩
  have els : ¬ has M key → RR 11 33 [some (rI j), some (.inl (nI key)), some (.inl (nI v)), some (.inl (nI (les M key))), none] [] σ1 (fun r σ' => (¬ has M key ∧ 40 ≤ M.1 ∧ r = some (.inl 0) ∧ σ' = σ1) ∨ (has M key ∧ r = some (.inl 1) ∧ isI σ' j (setV M (les M key) v) ∧ frI j σ1 σ') ∨ (¬ has M key ∧ M.1 < 40 ∧ r = some (.inl 1) ∧ isI σ' j (placeM M key v) ∧ frI j σ1 σ')) := by
    intro hno
    refine G_if rfl (fun q => ?_) (fun q => ?_)
    · rw [hI.1] at q
      have q := ilt (b := 40) q (by omega) (by decide)
      refine G_call rfl (ev_top hI hw.t) ?_
      rintro r1 σ2 ⟨rfl, rfl⟩
      have loop : ∀ (l : Nat) (x : Int32) (σ3 : Hp) (T : Nat → Nat), x = nI l → l ≤ 40 → (∀ i, i < M.1 → T i ≤ 40) → isI σ3 j (setT M T) → frI j σ2 σ3 → RR 11 50 [some (rI j), some (.inl (nI key)), some (.inl (nI v)), some (.inl (nI (les M key))), some (.inl x)] [] σ3 (fun r σ' => r = some (.inl 1) ∧ isI σ' j (insM (setT M (partL M.1 (les M key) l T)) (les M key) key v 0) ∧ frI j σ2 σ') := by
        intro l
        induction l with
        | zero =>
          intro x σ3 T hx hl hT hI3 hf
          refine G_if rfl (fun q2 => ?_) (fun q2 => ?_)
          · refine G_callv rfl rfl (ev_openAt hI3 (p := les M key) (k := key) (v := v) (h := 0) q hle) ?_
            rintro r1 σ4 ⟨rfl, h3, h4⟩
            exact G_retZ rfl (Or.inr rfl) ⟨rfl, h3, hf.tr h4⟩
          · rw [hx] at q2
            exact absurd (nlt (b := 1) q2 (by decide) (by decide)) (by decide)
        | succ l ih =>
          intro x σ3 T hx hl hT hI3 hf
          have hw3 : wfT (setT M T) := wt_setT hn (fun i hi => by have := hT i hi; omega)
          refine G_if rfl (fun q2 => ?_) (fun q2 => ?_)
          · rw [hx] at q2
            exact absurd (ilt (b := 1) q2 (by omega) (by decide)) (by omega)
          · refine G_callv rfl (by rw [hx]) (ev_partIfFull hI3 hw3 (l := l + 1) (p := les M key) (by omega) (by omega) hle) ?_
            rintro r1 σ4 ⟨rfl, h3, h4⟩
            refine G_to [50] rfl ?_
            exact ih _ σ4 _ (by rw [hx]; exact pk_m1 l) (by omega) (partF_le (by omega) hle hT (by omega)) h3 (hf.tr h4)
      refine G_to [50] rfl ?_
      refine (loop (topF M.2.2.2 M.1) _ σ2 M.2.2.2 rfl htop (fun i hi => by have := hlow i hi; omega) hI (frI.rf j σ2)).mono ?_
      rintro r σ' ⟨h1, h2, h3⟩
      exact Or.inr (Or.inr ⟨hno, q, h1, h2, h3⟩)
    · rw [hI.1] at q
      have q := nlt (b := 40) q (by omega) (by decide)
      exact G_retZ rfl (Or.inl rfl) (Or.inl ⟨hno, q, rfl, rfl⟩)
  refine G_if rfl (fun q => ?_) (fun q => ?_)
  · rw [hI.1] at q
    have q := ile q (by omega) (by omega)
    exact els (fun h => by have := h.1; omega)
  · rw [hI.1] at q
    have q := nle q (by omega) (by omega)
    refine G_ald rfl (les M key) rfl (by omega) (by decide) ?_
    have hKi := (hw.2.1 _ q).1
    rw [(hI.2 _ q).1]
    refine G_if rfl (fun q2 => ?_) (fun q2 => ?_)
    · exact els (fun h => q2 (by rw [h.2]))
    · have q2 := ieq (Classical.not_not.mp q2) (by omega) (by omega)
      refine G_ast rfl (les M key) rfl (by omega) (by decide) ?_
      refine G_retZ rfl (Or.inr rfl) (Or.inr (Or.inl ⟨⟨q, q2⟩, rfl, ⟨by simpa [hset, setV] using hI.1, fun i hi => ?_⟩, (frI.rf j _).st (by decide)⟩))
      obtain ⟨a1, a2, a3⟩ := hI.2 i hi
      refine ⟨by simpa [hset, setV] using a1, ?_, by simpa [hset, setV] using a3⟩
      by_cases hil : i = les M key
      · subst hil
        simp [hset, setV, upN]
      · simpa [hset, setV, upN, hil] using a2
theorem ev_takeOut (hI : isI σ j M) (hw : wfM M) (hlow : lowM M) {key : Nat} (hk : key < 100) : Ev 19 [rI j, .inl (nI key)] σ (fun r σ' => (¬ has M key ∧ r = some (.inl 0) ∧ σ' = σ) ∨ (has M key ∧ r = some (.inl 1) ∧ isI σ' j (outM M (les M key)) ∧ frI j σ σ')) := by
  have hn := hw.1
  have hle := les_le M key
  have htop := low_top hlow
  refine G_call rfl (ev_indexOf hI hw (by omega)) ?_
  rintro r1 σ1 ⟨rfl, ⟨hhas, rfl⟩ | ⟨hno, rfl⟩⟩
  · have hlt := hhas.1
    refine G_if rfl (fun q => ?_) (fun q => ?_)
    · have hlev : ∀ (p : Nat) (x : Int32) (K V : Nat → Nat) (σ2 : Hp), x = nI p → p < M.1 → isI σ2 j (M.1, K, V, M.2.2.2) → frI j σ1 σ2 → RR 19 39 [some (rI j), some (.inl (nI key)), some (.inl x), none] [] σ2 (fun r σ' => r = some (.inl 1) ∧ isI σ' j (M.1 - 1, delF K p, delF V p, delF (helpL M.1 p (topF M.2.2.2 M.1 - 1) M.2.2.2) p) ∧ frI j σ1 σ') := by
        intro p x K V σ2 hx hp hI2 hf2
        refine G_call rfl (ev_top hI2 ⟨hn, hw.t.2⟩) ?_
        rintro r1 σ3 ⟨rfl, rfl⟩
        have loop : ∀ (l : Nat) (x3 : Int32) (σ4 : Hp) (T : Nat → Nat), x3 = nI l → l ≤ 40 → (∀ i, i < M.1 → T i ≤ 40) → isI σ4 j (M.1, K, V, T) → frI j σ1 σ4 → RR 19 46 [some (rI j), some (.inl (nI key)), some (.inl x), some (.inl x3)] [] σ4 (fun r σ' => r = some (.inl 1) ∧ isI σ' j (M.1 - 1, delF K p, delF V p, delF (helpL M.1 p l T) p) ∧ frI j σ1 σ') := by
          intro l
          induction l with
          | zero =>
            intro x3 σ4 T hx3 hl hT hI4 hf
            refine G_if rfl (fun q2 => ?_) (fun q2 => ?_)
            · refine G_callv rfl (by rw [hx]) (ev_closeAt hI4 (p := p) hn hp) ?_
              rintro r1 σ5 ⟨rfl, h3, h4⟩
              exact G_retZ rfl (Or.inr rfl) ⟨rfl, h3, hf.tr h4⟩
            · rw [hx3] at q2
              exact absurd (nlt (b := 1) q2 (by decide) (by decide)) (by decide)
          | succ l ih =>
            intro x3 σ4 T hx3 hl hT hI4 hf
            refine G_if rfl (fun q2 => ?_) (fun q2 => ?_)
            · rw [hx3] at q2
              exact absurd (ilt (b := 1) q2 (by omega) (by decide)) (by omega)
            · refine G_callv rfl (by rw [hx3, hx]) (ev_helpIfPoor hI4 ⟨hn, fun i hi => by have := hT i hi; show T i < 64; omega⟩ (l := l + 1) (p := p) (by omega) (by omega) (by show p ≤ M.1; omega)) ?_
              rintro r1 σ5 ⟨rfl, h3, h4⟩
              refine G_to [46] rfl ?_
              exact ih _ σ5 _ (by rw [hx3]; exact pk_m1 l) (by omega) (helpF_le (by omega) (by omega) hT (by omega)) h3 (hf.tr h4)
        have htp : 1 ≤ topF M.2.2.2 M.1 := by
          obtain ⟨n', hn'⟩ : ∃ n', M.1 = n' + 1 := ⟨M.1 - 1, by omega⟩
          rw [hn']
          simp only [topF]
          omega
        refine G_to [46] rfl ?_
        exact loop (topF M.2.2.2 M.1 - 1) _ σ3 M.2.2.2 (lm1 htp) (by omega) (fun i hi => by have := hlow i hi; omega) hI2 hf2
      refine G_ald rfl (les M key) rfl (by omega) (by decide) ?_
      rw [(hI.2 _ hlt).2.2]
      have hT := hlow _ hlt
      have plain : outP M (les M key) = les M key → RR 19 39 [some (rI j), some (.inl (nI key)), some (.inl (nI (les M key))), none] [] σ1 (fun r σ' => (¬ has M key ∧ r = some (.inl 0) ∧ σ' = σ1) ∨ (has M key ∧ r = some (.inl 1) ∧ isI σ' j (outM M (les M key)) ∧ frI j σ1 σ')) := by
        intro ho
        refine (hlev (les M key) _ M.2.1 M.2.2.1 σ1 rfl hlt hI (frI.rf j σ1)).mono ?_
        rintro r σ' ⟨h1, h2, h3⟩
        refine Or.inr ⟨hhas, h1, ?_, h3⟩
        unfold outM
        rw [ho]
        exact h2
      refine G_if rfl (fun q2 => ?_) (fun q2 => ?_)
      · have q2 := ile (b := 0) q2 (by omega) (by decide)
        exact plain (by unfold outP; rw [if_neg (by omega)])
      · have q2 := nle (b := 0) q2 (by omega) (by decide)
        refine G_if rfl (fun q3 => ?_) (fun q3 => ?_)
        · rw [hI.1, nI_1] at q3
          have q3 := ile q3 (by omega) (by omega)
          exact plain (by unfold outP; rw [if_neg (by omega)])
        · rw [hI.1, nI_1] at q3
          have q3 := nle q3 (by omega) (by omega)
          refine G_call rfl (ev_changePlaces hI hn q3) ?_
          rintro r1 σ2 ⟨rfl, h3, h4⟩
          refine G_to [39] rfl ?_
          refine (hlev (les M key + 1) _ _ _ σ2 (nI_1 _) q3 h3 h4).mono ?_
          rintro r σ' ⟨h5, h6, h7⟩
          refine Or.inr ⟨hhas, h5, ?_, h7⟩
          have ho : outP M (les M key) = les M key + 1 := by unfold outP; rw [if_pos ⟨q2, q3⟩]
          unfold outM
          rw [ho, ← del_swp M.2.1, ← del_swp M.2.2.1]
          exact h6
    · exact absurd (nI_pos' (by omega)) q
  · refine G_if rfl (fun q => ?_) (fun q => ?_)
    · exact absurd q (by decide)
    · exact G_retZ rfl (Or.inl rfl) (Or.inl ⟨hno, rfl, rfl⟩)
end IT
