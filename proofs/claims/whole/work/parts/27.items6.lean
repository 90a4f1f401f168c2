/-! Items: the rest of what it reads. -/
section RU
variable {y pc pc' nxt : Nat} {ls ls' : Lc} {stk stk' r : List PV} {σ σ' : Hp} {Q Q' : Option PV → Hp → Prop}
def cpyq (y pc : Nat) (stk : List PV) (σ : Hp) : Option ((Int32 × (Int32 × Int32)) × ((Nat × Nat) × (Hp × (Nat × List PV)))) := match fetch y pc with
  | some (_, .invokestatic _, nxt, _, 4, _) => match stk with
    | .inl n :: .inl dp :: .inr (.inr (kd, ix)) :: .inl sp :: .inr (.inr (kd0, ix0)) :: r => match arr σ kd0 with
      | some (0, n0) => match arr σ kd with
        | some (0, n1) => match Nat.ble (wds r) 8 with
          | true => some ((sp, dp, n), (n0, n1), (hrow σ.1 kd ix (va_cpy (σ.1 kd0 ix0) (σ.1 kd ix) sp.toNatClampNeg dp.toNatClampNeg n.toNatClampNeg), σ.2), nxt, r)
          | false => none
        | _ => none
      | _ => none
    | _ => none
  | _ => none
theorem RR_cpy {sp dp n : Int32} {n0 n1 : Nat} (h : cpyq y pc stk σ = some ((sp, dp, n), (n0, n1), σ', nxt, r)) (hok : cpyOk sp dp n n0 n1) (k : RR y nxt ls r σ' Q) : RR y pc ls stk σ Q := by
  unfold cpyq at h
  split at h
  · next he =>
    split at h
    · split at h
      · next h0 =>
        split at h
        · next h1 =>
          split at h
          · next hb =>
            cases h
            exact RR_step he (by simp only [xexec, hb, bIf, xcpy, h0, h1]; exact if_pos hok) k
          · cases h
        · cases h
      · cases h
    · cases h
  · cases h
def gcpy (y pc : Nat) (ls : Lc) (stk : List PV) (σ : Hp) : Option (((Int32 × (Int32 × Int32)) × ((Nat × Nat) × (Hp × (Nat × List PV)))) × Lc) := match go y [] 80 pc ls stk σ with
  | none => none
  | some (pc', ls', stk', σ') => match cpyq y pc' stk' σ' with
    | none => none
    | some q => some (q, ls')
theorem G_cpy {sp dp n : Int32} {n0 n1 : Nat} (h : gcpy y pc ls stk σ = some (((sp, dp, n), (n0, n1), σ', nxt, r), ls')) (hok : cpyOk sp dp n n0 n1) (k : RR y nxt ls' r σ' Q) : RR y pc ls stk σ Q := by
  unfold gcpy at h
  split at h
  · cases h
  · next h1 =>
    split at h
    · cases h
    · next h2 =>
      cases h
      exact RR_go0 80 h1 (RR_cpy h2 hok k)
end RU
theorem cpyOk_nI {m : Nat} (h : m ≤ 40) : cpyOk 0 0 (nI m) 40 40 := ⟨by decide, by decide, nI_pos (by omega), by rw [nI_clamp (by omega)]; simpa using h, by rw [nI_clamp (by omega)]; simpa using h⟩
theorem frI.row {j k : Nat} {σ σ1 : Hp} {g : Nat → Int32} (h : frI j σ σ1) (hk : k = 2 ∨ k = 7 ∨ k = 8 ∨ k = 9) : frI j σ (hrow σ1.1 k j g, σ1.2) := by
  refine ⟨fun k' i' q => ?_, h.2⟩
  show hrow σ1.1 k j g k' i' = _
  rw [hrow_ne (by rintro h1; cases h1; exact q ⟨rfl, hk⟩)]
  exact h.1 k' i' q
def vwF (K V : Nat → Nat) (a b : Nat) : Nat → Nat → Nat → Nat
  | 0, _, s => s
  | m + 1, i, s => vwF K V a b m (i + 1) (if a ≤ K i ∧ K i ≤ b then s + V i else s)
def hsF (T : Nat → Nat) : Nat → Nat → Nat → Nat
  | 0, _, s => s
  | m + 1, i, s => hsF T m (i + 1) (s + T i)
noncomputable def nwF (M' : AM) (K : Nat → Nat) (a b : Nat) : Nat → Nat → Nat → Nat
  | 0, _, s => s
  | m + 1, i, s => nwF M' K a b m (i + 1) (@ite _ (a ≤ K i ∧ K i ≤ b ∧ ¬ has M' (K i)) (Classical.propDecidable _) (s + 1) s)
/-- of the others, whose height is another one in the changed map -/
noncomputable def ohF (M M' : AM) (but : Nat) : Nat → Nat → Nat → Nat
  | 0, _, s => s
  | m + 1, i, s => ohF M M' but m (i + 1) (@ite _ (M.2.1 i ≠ but ∧ has M' (M.2.1 i) ∧ M'.2.2.2 (les M' (M.2.1 i)) ≠ M.2.2.2 i) (Classical.propDecidable _) (s + 1) s)
def lkI (K T : Nat → Nat) (key l : Nat) : Nat → Nat → Nat → Nat → Bool × (Nat × Nat)
  | 0, _, hr, c => (false, hr, c)
  | m + 1, i, hr, c => if T i < l then lkI K T key l m (i + 1) hr c else if K i = key then (true, hr, c + 1) else if key < K i then (false, hr, c + 1) else lkI K T key l m (i + 1) (i + 1) (c + 1)
def lkO (K T : Nat → Nat) (n key : Nat) : Nat → Nat → Nat → Bool × Nat
  | 0, _, c => (false, c)
  | l + 1, hr, c => match lkI K T key l (n - hr) hr hr c with
    | (true, _, c') => (true, c')
    | (false, hr', c') => lkO K T n key l hr' c'
def looksF (M : AM) (key : Nat) : Bool × Nat := lkO M.2.1 M.2.2.2 M.1 key (topF M.2.2.2 M.1) 0 0
def alI (T : Nat → Nat) (l last : Nat) : Nat → Nat → Nat → Nat → Nat
  | 0, _, _, s => s
  | m + 1, i, p, s => if l < T i then alI T l last m (i + 1) 0 s else if T i = l then alI T l last m (i + 1) (p + 1) (s + (p + 1)) else alI T l last m (i + 1) p (s + (if i + 1 < last then p + 1 else p))
def alO (T : Nat → Nat) (n : Nat) : Nat → Nat → Nat
  | 0, s => s
  | l + 1, s => alO T n l (alI T l (ahF T l n) n 0 0 s)
def alF (T : Nat → Nat) (n : Nat) : Nat := alO T n (topF T n) 0
theorem lkI_le (K T : Nat → Nat) (key l : Nat) : ∀ (m i hr c : Nat), hr ≤ i → (lkI K T key l m i hr c).2.1 ≤ i + m
  | 0, i, hr, c, h => by simpa [lkI] using h
  | m + 1, i, hr, c, h => by
    unfold lkI
    split
    · have := lkI_le K T key l m (i + 1) hr c (by omega)
      omega
    · split
      · show hr ≤ _
        omega
      · split
        · show hr ≤ _
          omega
        · have := lkI_le K T key l m (i + 1) (i + 1) (c + 1) (by omega)
          omega
section IT
variable {σ : Hp} {j : Nat} {M : AM}
theorem ev_copyFrom {jf : Nat} (hI : isI σ jf M) (hn : M.1 ≤ 40) (hj : jf ≠ j) : Ev 5 [rI j, rI jf] σ (fun r σ' => r = none ∧ isI σ' j M ∧ frI j σ σ') := by
  have hj' : ¬ j = jf := fun e => hj e.symm
  have e0 : hset σ.1 2 j 3 (σ.1 2 jf 3) 2 j 3 = nI M.1 := by
    simp only [hset, and_self, if_true]
    exact hI.1
  have e1 : hset σ.1 2 j 3 (σ.1 2 jf 3) 2 j 3 = nI M.1 := e0
  refine G_cpy rfl (by rw [show (hset σ.1 2 j 3 (σ.1 2 jf 3), σ.2).1 2 j 3 = nI M.1 from e0]; exact cpyOk_nI hn) ?_
  refine G_cpy rfl (by rw [show (hrow (hset σ.1 2 j 3 (σ.1 2 jf 3)) 7 j _, σ.2).1 2 j 3 = nI M.1 from by simp only [hrow]; simpa using e0]; exact cpyOk_nI hn) ?_
  refine G_cpy rfl (by rw [show (hrow (hrow (hset σ.1 2 j 3 (σ.1 2 jf 3)) 7 j _) 8 j _, σ.2).1 2 j 3 = nI M.1 from by simp only [hrow]; simpa using e0]; exact cpyOk_nI hn) ?_
  refine G_ret rfl ⟨rfl, ⟨by simp only [hrow]; simpa using e0, fun i hi => ?_⟩, (((((frI.rf j σ).st (by decide)).row (by decide)).row (by decide)).row (by decide))⟩
  obtain ⟨a1, a2, a3⟩ := hI.2 i hi
  have hcl : (nI M.1).toNatClampNeg = M.1 := nI_clamp (by omega)
  have hz : (0 : Int32).toNatClampNeg = 0 := rfl
  refine ⟨?_, ?_, ?_⟩ <;> simp [hrow, hset, va_cpy, hI.1, hcl, hi, hj, a1, a2, a3]
theorem ev_add (hI : isI σ j M) {k v h : Nat} (hn : M.1 < 40) : Ev 6 [rI j, .inl (nI k), .inl (nI v), .inl (nI h)] σ (fun r σ' => r = none ∧ isI σ' j (insM M M.1 k v h) ∧ frI j σ σ') := by
  refine G_callv rfl (by rw [hI.1]) (ev_openAt hI (p := M.1) (k := k) (v := v) (h := h) hn (Nat.le_refl _)) ?_
  rintro r1 σ1 ⟨rfl, h2, h3⟩
  exact G_ret rfl ⟨rfl, h2, h3⟩
theorem ev_canTake (hI : isI σ j M) (hw : wfM M) {key : Nat} (hk : key < 2147483648) : Ev 8 [rI j, .inl (nI key)] σ (fun r σ' => σ' = σ ∧ (((M.1 < 40 ∨ has M key) ∧ r = some (.inl 1)) ∨ (¬ (M.1 < 40 ∨ has M key) ∧ r = some (.inl 0)))) := by
  have hn := hw.1
  refine G_if rfl (fun q => ?_) (fun q => ?_)
  · rw [hI.1] at q
    exact G_retZ rfl (Or.inr rfl) ⟨rfl, Or.inl ⟨Or.inl (ilt (b := 40) q (by omega) (by decide)), rfl⟩⟩
  · rw [hI.1] at q
    have q := nlt (b := 40) q (by omega) (by decide)
    refine G_call rfl (ev_indexOf hI hw hk) ?_
    rintro r1 σ1 ⟨rfl, ⟨hh, rfl⟩ | ⟨hh, rfl⟩⟩
    · refine G_if rfl (fun q2 => ?_) (fun q2 => ?_)
      · exact absurd q2 (nI_pos (by have := hh.1; omega))
      · exact G_retZ rfl (Or.inr rfl) ⟨rfl, Or.inl ⟨Or.inr hh, rfl⟩⟩
    · refine G_if rfl (fun q2 => ?_) (fun q2 => ?_)
      · exact G_retZ rfl (Or.inl rfl) ⟨rfl, Or.inr ⟨fun q3 => q3.elim (fun q4 => by omega) hh, rfl⟩⟩
      · exact absurd (by decide) q2
theorem ev_allHeights (hI : isI σ j M) (hw : wfM M) : Ev 27 [rI j] σ (fun r σ' => r = some (.inl (nI (hsF M.2.2.2 M.1 0 0))) ∧ σ' = σ) := by
  have hn := hw.1
  have loop : ∀ (m i s : Nat) (x1 x2 : Int32), x1 = nI s → x2 = nI i → i + m = M.1 → RR 27 4 [some (rI j), some (.inl x1), some (.inl x2)] [] σ (fun r σ' => r = some (.inl (nI (hsF M.2.2.2 m i s))) ∧ σ' = σ) := by
    intro m
    induction m with
    | zero =>
      intro i s x1 x2 hx1 hx2 hi
      refine G_if rfl (fun h => ?_) (fun h => ?_)
      · exact G_ret rfl ⟨by rw [hx1]; rfl, rfl⟩
      · rw [hI.1, hx2] at h
        exact absurd (nle h (by omega) (by omega)) (by omega)
    | succ m ih =>
      intro i s x1 x2 hx1 hx2 hi
      refine G_if rfl (fun h => ?_) (fun h => ?_)
      · rw [hI.1, hx2] at h
        exact absurd (ile h (by omega) (by omega)) (by omega)
      · refine G_ald rfl i hx2 (by omega) (by decide) ?_
        rw [(hI.2 i (by omega)).2.2]
        refine G_to [4] rfl ?_
        exact ih (i + 1) _ _ _ (by rw [hx1, nI_add]) (by rw [hx2]; exact nI_1 i) (by omega)
  refine G_to [4] rfl ?_
  exact loop M.1 0 0 0 0 nI_0.symm nI_0.symm (by omega)
theorem ev_valuesWithin (hI : isI σ j M) (hw : wfM M) {a b : Nat} (ha : a < 100) (hb : b < 100) : Ev 31 [rI j, .inl (nI a), .inl (nI b)] σ (fun r σ' => r = some (.inl (nI (vwF M.2.1 M.2.2.1 a b M.1 0 0))) ∧ σ' = σ) := by
  have hn := hw.1
  have loop : ∀ (m i s : Nat) (x3 x4 : Int32), x3 = nI s → x4 = nI i → i + m = M.1 → RR 31 5 [some (rI j), some (.inl (nI a)), some (.inl (nI b)), some (.inl x3), some (.inl x4)] [] σ (fun r σ' => r = some (.inl (nI (vwF M.2.1 M.2.2.1 a b m i s))) ∧ σ' = σ) := by
    intro m
    induction m with
    | zero =>
      intro i s x1 x2 hx1 hx2 hi
      refine G_if rfl (fun h => ?_) (fun h => ?_)
      · exact G_ret rfl ⟨by rw [hx1]; rfl, rfl⟩
      · rw [hI.1, hx2] at h
        exact absurd (nle h (by omega) (by omega)) (by omega)
    | succ m ih =>
      intro i s x1 x2 hx1 hx2 hi
      have hK := (hw.2.1 i (by omega)).1
      refine G_if rfl (fun h => ?_) (fun h => ?_)
      · rw [hI.1, hx2] at h
        exact absurd (ile h (by omega) (by omega)) (by omega)
      · refine G_ald rfl i hx2 (by omega) (by decide) ?_
        rw [(hI.2 i (by omega)).1, vwF]
        refine G_if rfl (fun h => ?_) (fun h => ?_)
        · have h := ilt h (by omega) (by omega)
          rw [if_neg (by omega)]
          refine G_to [5] rfl ?_
          exact ih (i + 1) s _ _ hx1 (by rw [hx2]; exact nI_1 i) (by omega)
        · have h := nlt h (by omega) (by omega)
          refine G_ald rfl i hx2 (by omega) (by decide) ?_
          rw [(hI.2 i (by omega)).1]
          refine G_if rfl (fun h2 => ?_) (fun h2 => ?_)
          · have h2 := ilt h2 (by omega) (by omega)
            rw [if_neg (by omega)]
            refine G_to [5] rfl ?_
            exact ih (i + 1) s _ _ hx1 (by rw [hx2]; exact nI_1 i) (by omega)
          · have h2 := nlt h2 (by omega) (by omega)
            rw [if_pos ⟨h, h2⟩]
            refine G_ald rfl i hx2 (by omega) (by decide) ?_
            rw [(hI.2 i (by omega)).2.1]
            refine G_to [5] rfl ?_
            exact ih (i + 1) _ _ _ (by rw [hx1, nI_add]) (by rw [hx2]; exact nI_1 i) (by omega)
  refine G_to [5] rfl ?_
  exact loop M.1 0 0 0 0 nI_0.symm nI_0.symm (by omega)
theorem ev_looksFor (hI : isI σ j M) (hw : wfM M) {key : Nat} (hk : key < 100) : Ev 30 [rI j, .inl (nI key)] σ (fun r σ' => r = some (.inl (nI (looksF M key).2)) ∧ σ' = σ) := by
  have hn := hw.1
  have htop : topF M.2.2.2 M.1 ≤ 64 := topF_le _ hw.t.2
  have hinner : ∀ (l : Nat), l < 64 → ∀ (m i hr c : Nat) (x2 x3 x4 x5 : Int32) (Q : Option PV → Hp → Prop), x2 = nI c → x3 = nI hr - 1 → x4 = nI l → x5 = nI i → i + m = M.1 → hr ≤ i →
      ((lkI M.2.1 M.2.2.2 key l m i hr c).1 = true → Q (some (.inl (nI (lkI M.2.1 M.2.2.2 key l m i hr c).2.2))) σ) →
      ((lkI M.2.1 M.2.2.2 key l m i hr c).1 = false → ∀ (x2 x3 x5 : Int32), x2 = nI (lkI M.2.1 M.2.2.2 key l m i hr c).2.2 → x3 = nI (lkI M.2.1 M.2.2.2 key l m i hr c).2.1 - 1 → RR 30 85 [some (rI j), some (.inl (nI key)), some (.inl x2), some (.inl x3), some (.inl x4), some (.inl x5)] [] σ Q) →
      RR 30 22 [some (rI j), some (.inl (nI key)), some (.inl x2), some (.inl x3), some (.inl x4), some (.inl x5)] [] σ Q := by
    intro l hl m
    induction m with
    | zero =>
      intro i hr c x2 x3 x4 x5 Q hx2 hx3 hx4 hx5 hi hhr kt kf
      refine G_if rfl (fun h => ?_) (fun h => ?_)
      · exact kf rfl _ _ _ hx2 hx3
      · rw [hI.1, hx5] at h
        exact absurd (nle h (by omega) (by omega)) (by omega)
    | succ m ih =>
      intro i hr c x2 x3 x4 x5 Q hx2 hx3 hx4 hx5 hi hhr kt kf
      have hK := (hw.2.1 i (by omega)).1
      have hT := (hw.2.1 i (by omega)).2.2
      unfold lkI at kt kf
      refine G_if rfl (fun h => ?_) (fun h => ?_)
      · rw [hI.1, hx5] at h
        exact absurd (ile h (by omega) (by omega)) (by omega)
      · refine G_ald rfl i hx5 (by omega) (by decide) ?_
        rw [(hI.2 i (by omega)).2.2]
        refine G_if rfl (fun h2 => ?_) (fun h2 => ?_)
        · rw [hx4] at h2
          have h2 := ile h2 (by omega) (by omega)
          rw [if_neg (by omega)] at kt kf
          refine G_ald rfl i hx5 (by omega) (by decide) ?_
          rw [(hI.2 i (by omega)).1]
          refine G_if rfl (fun h3 => ?_) (fun h3 => ?_)
          · have h3 : ¬ M.2.1 i = key := fun e => h3 (by rw [e])
            rw [if_neg h3] at kt kf
            refine G_ald rfl i hx5 (by omega) (by decide) ?_
            rw [(hI.2 i (by omega)).1]
            refine G_if rfl (fun h4 => ?_) (fun h4 => ?_)
            · have h4 := ile h4 (by omega) (by omega)
              rw [if_neg (by omega)] at kt kf
              refine G_to [22] rfl ?_
              exact ih (i + 1) (i + 1) (c + 1) _ _ _ _ Q (by rw [hx2]; exact nI_1 c) (by rw [hx5]; exact (nI_pred i).symm) hx4 (by rw [hx5]; exact nI_1 i) (by omega) (by omega) kt kf
            · have h4 := nle h4 (by omega) (by omega)
              rw [if_pos h4] at kt kf
              refine G_to [85] rfl ?_
              exact kf rfl _ _ _ (by rw [hx2]; exact nI_1 c) hx3
          · have h3 := ieq (Classical.not_not.mp h3) (by omega) (by omega)
            rw [if_pos h3] at kt kf
            refine G_ret rfl ?_
            have := kt rfl
            rw [hx2, nI_1]
            exact this
        · rw [hx4] at h2
          have h2 := nle h2 (by omega) (by omega)
          rw [if_pos h2] at kt kf
          refine G_to [22] rfl ?_
          exact ih (i + 1) hr c _ _ _ _ Q hx2 hx3 hx4 (by rw [hx5]; exact nI_1 i) (by omega) (by omega) kt kf
  have outer : ∀ (l hr c : Nat) (x2 x3 x4 : Int32) (x5 : Option PV), x2 = nI c → x3 = nI hr - 1 → x4 = nI l - 1 → l ≤ 64 → hr ≤ M.1 → RR 30 12 [some (rI j), some (.inl (nI key)), some (.inl x2), some (.inl x3), some (.inl x4), x5] [] σ (fun r σ' => r = some (.inl (nI (lkO M.2.1 M.2.2.2 M.1 key l hr c).2)) ∧ σ' = σ) := by
    intro l
    induction l with
    | zero =>
      intro hr c x2 x3 x4 x5 hx2 hx3 hx4 hl hhr
      refine G_if rfl (fun h => ?_) (fun h => ?_)
      · exact G_ret rfl ⟨by rw [hx2]; rfl, rfl⟩
      · rw [hx4] at h
        exact absurd ((im1_lt (by omega)).mpr rfl) h
    | succ l ih =>
      intro hr c x2 x3 x4 x5 hx2 hx3 hx4 hl hhr
      have hle := lkI_le M.2.1 M.2.2.2 key l (M.1 - hr) hr hr c (Nat.le_refl _)
      refine G_if rfl (fun h => ?_) (fun h => ?_)
      · rw [hx4] at h
        exact absurd ((im1_lt (by omega)).mp h) (by omega)
      · have aux : ∀ (x5 : Int32), x5 = nI hr → RR 30 22 [some (rI j), some (.inl (nI key)), some (.inl x2), some (.inl x3), some (.inl x4), some (.inl x5)] [] σ (fun r σ' => r = some (.inl (nI (lkO M.2.1 M.2.2.2 M.1 key (l + 1) hr c).2)) ∧ σ' = σ) := by
          intro x5 hx5
          refine hinner l (by omega) (M.1 - hr) hr hr c x2 x3 x4 x5 _ hx2 hx3 (by rw [hx4]; exact nI_pred l) hx5 (by omega) (Nat.le_refl _) (fun hf => ?_) (fun hf y2 y3 y5 hy2 hy3 => ?_)
          · refine ⟨?_, rfl⟩
            rw [lkO]
            rcases hq : lkI M.2.1 M.2.2.2 key l (M.1 - hr) hr hr c with ⟨b, h1, c1⟩
            rw [hq] at hf
            cases hf
            rfl
          · refine G_to [12] rfl ?_
            rw [lkO]
            rcases hq : lkI M.2.1 M.2.2.2 key l (M.1 - hr) hr hr c with ⟨b, h1, c1⟩
            rw [hq] at hf hy2 hy3 hle
            have hf : b = false := hf
            subst hf
            exact ih h1 c1 _ _ _ _ hy2 hy3 (by rw [hx4]; exact im1_dec l) (by omega) (by have : h1 ≤ hr + (M.1 - hr) := hle; omega)
        refine G_to [22] rfl ?_
        exact aux _ (by rw [hx3]; exact im1_add hr)
  refine G_call rfl (ev_top hI hw.t) ?_
  rintro r1 σ1 ⟨rfl, rfl⟩
  refine G_to [12] rfl ?_
  exact outer _ 0 0 _ _ _ _ nI_0.symm im1_neg.symm rfl htop (Nat.zero_le _)
end IT
