/-! judge. -/
section RU
variable {y pc pc' nxt : Nat} {ls ls' : Lc} {stk stk' r : List PV} {σ σ' : Hp} {Q Q' : Option PV → Hp → Prop}
theorem G_swl (k : Nat) {x : Int32} {lo hi : Int} {sw : List Nat} {a : Nat} (h : gsw y pc ls stk σ = some ((x, (lo, hi), sw, a, r), ls', σ')) (hx : x = nI (k + 1)) (hl : lo = 1) (hkh : (k : Int) + 1 ≤ hi) (hk2 : k + 1 < 2147483648) (t : Nat) (ht : sw.getD k a = t) (kk : RR y t ls' r σ' Q) : RR y pc ls stk σ Q := by
  refine G_sw h ?_
  rw [swT_in (i := k) (by rw [hx, hl, nI_toInt hk2]; omega) (by omega), ht]
  exact kk
end RU
theorem frB.rf (b : Nat) (σ : Hp) : frB b σ σ := ⟨fun _ _ _ => rfl, rfl⟩
theorem frB.tr {b : Nat} {σ σ1 σ2 : Hp} (h : frB b σ σ1) (h2 : frB b σ1 σ2) : frB b σ σ2 := ⟨fun k i q => (h2.1 k i q).trans (h.1 k i q), h2.2.trans h.2⟩
theorem frI.bb {m : Nat} {σ σ' : Hp} (h : frI (2 * 1 + m) σ σ') (hm : m < 2) : frB 1 σ σ' := ⟨fun k i q => h.1 k i (fun e => q ⟨by have := e.1; omega, e.2⟩), h.2⟩
theorem CS.trB {σ σ' : Hp} {S : SS} (h : CS σ S) (hf : frB 1 σ σ') : CS σ' S := h.now (B := S.1) ⟨fun k i q => hf.1 k i (fun e => q ⟨by have := e.1; omega, e.2⟩), hf.2⟩ (hf.b (by decide) h.1)
def okD1 (M : AM) (t : Nat) : Nat → Prop
  | 1 => can M t
  | 2 => has M t
  | 3 => has M t
  | 4 => topF M.2.2.2 M.1 = t
  | 5 => alF M.2.2.2 M.1 ≤ t
  | _ => False
noncomputable def nxD1 (M : AM) (t : Nat) : Nat → AM
  | 1 => plM M t 0
  | 2 => toM M t
  | _ => M
def okD (B : BM) (d : Nat) : Prop := d / 100 % 10 < 2 ∧ okD1 (mp B (d / 100 % 10)) (d % 100) (d / 1000)
noncomputable def nxD (B : BM) (d : Nat) : BM := gt (d / 100 % 10 < 2) (upB B (d / 100 % 10) (nxD1 (mp B (d / 100 % 10)) (d % 100) (d / 1000))) B
theorem upB_mp {B : BM} {m : Nat} (hm : m < 2) : upB B m (mp B m) = B := by
  match m, hm with
  | 0, _ => rfl
  | 1, _ => rfl
theorem Inv.nx {M : AM} (h : Inv M) {t : Nat} (ht : t < 100) (c : Nat) : Inv (nxD1 M t c) := by
  unfold nxD1
  split
  · exact h.pl ht (by decide)
  · exact h.to t
  · exact h
theorem InvB.nx {B : BM} (h : InvB B) (d : Nat) : InvB (nxD B d) := by
  unfold nxD
  by_cases hm : d / 100 % 10 < 2
  · rw [gt_t hm]
    exact h.up hm ((h.at hm).nx (Nat.mod_lt _ (by decide)) _)
  · rw [gt_f hm]; exact h
theorem ev_canBe {σ : Hp} {B : BM} (hB : isB σ 1 B) (hV : InvB B) {d : Nat} (hd : d < 10000) : Ev 66 [rT, .inl (nI d)] σ (fun r σ' => r = some (.inl (ifI (okD B d))) ∧ isB σ' 1 (nxD B d) ∧ frB 1 σ σ') := by
  have e1 : nI d / 100 = nI (d / 100) := pk_div (d := 100) (by omega) (by decide) (by decide)
  have e2 : jrem (nI (d / 100)) 10 = nI (d / 100 % 10) := jr (d := 10) (by omega) (by decide) (by decide)
  have e3 : jrem (nI d) 100 = nI (d % 100) := jr (d := 100) (by omega) (by decide) (by decide)
  have e4 : nI d / 1000 = nI (d / 1000) := pk_div (d := 1000) (by omega) (by decide) (by decide)
  have main : ∀ m t c, m < 2 → t < 100 → c < 10 → nI d / 1000 = nI c → RR 66 22 [some rT, some (.inl (nI d)), some (.inl (nI m)), some (.inl (nI t)), none] [] σ (fun r σ' => r = some (.inl (ifI (okD1 (mp B m) t c))) ∧ isB σ' 1 (upB B m (nxD1 (mp B m) t c)) ∧ frB 1 σ σ') := by
    intro m t c hm ht hc hdc
    have hI := hB.at hm
    have hV1 := hV.at hm
    have hn := hV1.1.1
    have same : upB B m (mp B m) = B := upB_mp hm
    refine G_call rfl (ev_of 1 hm σ) ?_
    rintro r1 σ1 ⟨rfl, rfl⟩
    refine G_div rfl (by decide) ?_
    rw [hdc]
    match c, hc with
    | 0, _ =>
      refine G_swd rfl (Or.inl (by decide)) ?_
      exact G_retZ rfl (Or.inl rfl) ⟨by rw [show ifI (okD1 (mp B m) t 0) = 0 from gt_f (fun e => e)], by rw [show nxD1 (mp B m) t 0 = mp B m from rfl, same]; exact hB, frB.rf _ _⟩
    | 1, _ =>
      refine G_swl 0 rfl rfl rfl (by decide) (by decide) 72 rfl ?_
      refine G_callv rfl (by rw [show (0 : Int32) = nI 0 from rfl]) (ev_pl hI hV1 ht (v := 0) (by decide)) ?_
      rintro r1 σ2 ⟨rfl, i2, f2⟩
      exact G_retZ rfl (ifI_z _) ⟨rfl, hB.up hm i2 f2, f2.bb hm⟩
    | 2, _ =>
      refine G_swl 1 rfl rfl rfl (by decide) (by decide) 80 rfl ?_
      refine G_call rfl (ev_to hI hV1 ht) ?_
      rintro r1 σ2 ⟨rfl, i2, f2⟩
      exact G_retZ rfl (ifI_z _) ⟨rfl, hB.up hm i2 f2, f2.bb hm⟩
    | 3, _ =>
      refine G_swl 2 rfl rfl rfl (by decide) (by decide) 87 rfl ?_
      refine G_call rfl (ev_indexOf hI hV1.1 (key := t) (by omega)) ?_
      rintro r1 σ2 ⟨rfl, ⟨hh, rfl⟩ | ⟨hh, rfl⟩⟩
      · have hlt := hh.1
        refine G_if rfl (fun q => absurd q (nI_pos (by omega))) (fun q => ?_)
        exact G_retZ rfl (Or.inr rfl) ⟨by rw [show ifI (okD1 (mp B m) t 3) = 1 from gt_t hh], by rw [show nxD1 (mp B m) t 3 = mp B m from rfl, same]; exact hB, frB.rf _ _⟩
      · refine G_if rfl (fun q => ?_) (fun q => absurd (by decide) q)
        exact G_retZ rfl (Or.inl rfl) ⟨by rw [show ifI (okD1 (mp B m) t 3) = 0 from gt_f hh], by rw [show nxD1 (mp B m) t 3 = mp B m from rfl, same]; exact hB, frB.rf _ _⟩
    | 4, _ =>
      have hT := topF_le (b := 64) (mp B m).1 hV1.1.t.2
      refine G_swl 3 rfl rfl rfl (by decide) (by decide) 102 rfl ?_
      refine G_call rfl (ev_top hI hV1.1.t) ?_
      rintro r1 σ2 ⟨rfl, rfl⟩
      refine G_if rfl (fun q => ?_) (fun q => ?_)
      · exact G_retZ rfl (Or.inl rfl) ⟨by rw [show ifI (okD1 (mp B m) t 4) = 0 from gt_f (fun e => q (by rw [show topF (mp B m).2.2.2 (mp B m).1 = t from e]))], by rw [show nxD1 (mp B m) t 4 = mp B m from rfl, same]; exact hB, frB.rf _ _⟩
      · have q := ieq (Classical.not_not.mp q) (by omega) (by omega)
        exact G_retZ rfl (Or.inr rfl) ⟨by rw [show ifI (okD1 (mp B m) t 4) = 1 from gt_t q], by rw [show nxD1 (mp B m) t 4 = mp B m from rfl, same]; exact hB, frB.rf _ _⟩
    | 5, _ =>
      have hA := alF_lt hV1.1.t
      refine G_swl 4 rfl rfl rfl (by decide) (by decide) 117 rfl ?_
      refine G_call rfl (ev_allLooks hI hV1.1.t) ?_
      rintro r1 σ2 ⟨rfl, rfl⟩
      refine G_if rfl (fun q => ?_) (fun q => ?_)
      · have q := ilt q (by omega) (by omega)
        exact G_retZ rfl (Or.inl rfl) ⟨by rw [show ifI (okD1 (mp B m) t 5) = 0 from gt_f (fun e => absurd (show alF (mp B m).2.2.2 (mp B m).1 ≤ t from e) (by omega))], by rw [show nxD1 (mp B m) t 5 = mp B m from rfl, same]; exact hB, frB.rf _ _⟩
      · have q := nlt q (by omega) (by omega)
        exact G_retZ rfl (Or.inr rfl) ⟨by rw [show ifI (okD1 (mp B m) t 5) = 1 from gt_t q], by rw [show nxD1 (mp B m) t 5 = mp B m from rfl, same]; exact hB, frB.rf _ _⟩
    | k + 6, hk =>
      refine G_swd rfl (Or.inr (by rw [nI_toInt (by omega)]; omega)) ?_
      exact G_retZ rfl (Or.inl rfl) ⟨by rw [show ifI (okD1 (mp B m) t (k + 6)) = 0 from gt_f (fun e => e)], by rw [show nxD1 (mp B m) t (k + 6) = mp B m from rfl, same]; exact hB, frB.rf _ _⟩
  refine G_div rfl (by decide) ?_
  refine G_div rfl (by decide) ?_
  refine G_div rfl (by decide) ?_
  rw [e1, e2, e3]
  refine G_call rfl (ev_isMap _ _) ?_
  rintro r1 σ1 ⟨rfl, ⟨h1, rfl⟩ | ⟨h1, rfl⟩⟩
  · have hm : d / 100 % 10 < 2 := by
      rcases h1 with h1 | h1
      · have := ieq (b := 0) h1 (by omega) (by decide)
        omega
      · have := ieq (b := 1) h1 (by omega) (by decide)
        omega
    refine G_if rfl (fun q => ?_) (fun q => absurd (by decide) q)
    refine (main (d / 100 % 10) (d % 100) (d / 1000) hm (Nat.mod_lt _ (by decide)) (by omega) e4).mono ?_
    rintro r2 σ2 ⟨g1, g2, g3⟩
    refine ⟨?_, ?_, g3⟩
    · rw [g1]
      congr 2
      exact gt_cg ⟨fun e => ⟨hm, e⟩, fun e => e.2⟩ _ _
    · unfold nxD
      rw [gt_t hm]
      exact g2
  · have hm : ¬ d / 100 % 10 < 2 := fun e => h1 (by
      rcases (show d / 100 % 10 = 0 ∨ d / 100 % 10 = 1 by omega) with e | e
      · rw [e]; exact Or.inl rfl
      · rw [e]; exact Or.inr rfl)
    refine G_if rfl (fun q => absurd rfl q) (fun q => ?_)
    refine G_retZ rfl (Or.inl rfl) ⟨?_, ?_, frB.rf _ _⟩
    · rw [show ifI (okD B d) = 0 from gt_f (fun e => hm e.1)]
    · unfold nxD
      rw [gt_f hm]
      exact hB
theorem frS.pb {σ σ' : Hp} {P mb : Nat} {B : BM} (h : frS σ σ') (hP : P ≠ 6) (hB : isPB σ P mb B) : isPB σ' P mb B := ⟨h.is hP hB.1, h.is hP hB.2⟩
theorem ev_does {σ : Hp} {B : BM} (hB : isPB σ 22 0 B) (hV : InvB B) {d : Nat} (hd : d < 10000) : Ev 135 [rMo, .inl (nI d)] σ (fun r σ' => r = some (.inl (ifI (okD B d))) ∧ isPB σ' 22 0 (nxD B d) ∧ frT σ σ') := by
  have e1 : nI d / 100 = nI (d / 100) := pk_div (d := 100) (by omega) (by decide) (by decide)
  have e2 : jrem (nI (d / 100)) 10 = nI (d / 100 % 10) := jr (d := 10) (by omega) (by decide) (by decide)
  have e3 : jrem (nI d) 100 = nI (d % 100) := jr (d := 100) (by omega) (by decide) (by decide)
  have e4 : nI d / 1000 = nI (d / 1000) := pk_div (d := 1000) (by omega) (by decide) (by decide)
  have main : ∀ m t c, m < 2 → t < 100 → c < 10 → nI d / 1000 = nI c → RR 135 24 [some rMo, some (.inl (nI d)), some (.inl (nI (0 + 121 * m))), some (.inl (nI t))] [] σ (fun r σ' => r = some (.inl (ifI (okD1 (mp B m) t c))) ∧ isPB σ' 22 0 (upB B m (nxD1 (mp B m) t c)) ∧ frT σ σ') := by
    intro m t c hm ht hc hdc
    have hI := hB.at hm
    have hV1 := hV.at hm
    have hn := hV1.1.1
    have same : upB B m (mp B m) = B := upB_mp hm
    refine G_div rfl (by decide) ?_
    rw [hdc]
    match c, hc with
    | 0, _ =>
      refine G_swd rfl (Or.inl (by decide)) ?_
      exact G_retZ rfl (Or.inl rfl) ⟨by rw [show ifI (okD1 (mp B m) t 0) = 0 from gt_f (fun e => e)], by rw [show nxD1 (mp B m) t 0 = mp B m from rfl, same]; exact hB, frT.rf _⟩
    | 1, _ =>
      refine G_swl 0 rfl rfl rfl (by decide) (by decide) 64 rfl ?_
      refine G_callv rfl (by rw [show (0 : Int32) = nI 0 from rfl]) (ev_ppl_22 hI hV1 (by omega) (v := 0) ht) ?_
      rintro r1 σ2 ⟨rfl, i2, f2⟩
      exact G_retZ rfl (ifI_z _) ⟨rfl, hB.up hV.sz hm i2 f2, f2.t⟩
    | 2, _ =>
      refine G_swl 1 rfl rfl rfl (by decide) (by decide) 76 rfl ?_
      refine G_call rfl (ev_removes hI hV1 (by omega) ht) ?_
      rintro r1 σ2 ⟨rfl, i2, f2⟩
      exact G_retZ rfl (ifI_z _) ⟨rfl, hB.up hV.sz hm i2 f2, f2.t⟩
    | 3, _ =>
      refine G_swl 2 rfl rfl rfl (by decide) (by decide) 83 rfl ?_
      refine G_call rfl (ev_find_22 hI hV1.1 (by omega) (key := t) (by omega)) ?_
      rintro r1 σ2 ⟨rfl, ⟨hh, rfl⟩ | ⟨hh, rfl⟩⟩
      · have hlt := hh.1
        refine G_if rfl (fun q => absurd q (no9 (by omega))) (fun q => ?_)
        exact G_retZ rfl (Or.inr rfl) ⟨by rw [show ifI (okD1 (mp B m) t 3) = 1 from gt_t hh], by rw [show nxD1 (mp B m) t 3 = mp B m from rfl, same]; exact hB, frT.rf _⟩
      · refine G_if rfl (fun q => ?_) (fun q => absurd rfl q)
        exact G_retZ rfl (Or.inl rfl) ⟨by rw [show ifI (okD1 (mp B m) t 3) = 0 from gt_f hh], by rw [show nxD1 (mp B m) t 3 = mp B m from rfl, same]; exact hB, frT.rf _⟩
    | 4, _ =>
      have hT := topF_le (b := 64) (mp B m).1 hV1.1.t.2
      refine G_swl 3 rfl rfl rfl (by decide) (by decide) 103 rfl ?_
      refine G_call rfl (ev_ptop_22 hI hV1.1.t (by omega)) ?_
      rintro r1 σ2 ⟨rfl, rfl⟩
      refine G_if rfl (fun q => ?_) (fun q => ?_)
      · exact G_retZ rfl (Or.inl rfl) ⟨by rw [show ifI (okD1 (mp B m) t 4) = 0 from gt_f (fun e => q (by rw [show topF (mp B m).2.2.2 (mp B m).1 = t from e]))], by rw [show nxD1 (mp B m) t 4 = mp B m from rfl, same]; exact hB, frT.rf _⟩
      · have q := ieq (Classical.not_not.mp q) (by omega) (by omega)
        exact G_retZ rfl (Or.inr rfl) ⟨by rw [show ifI (okD1 (mp B m) t 4) = 1 from gt_t q], by rw [show nxD1 (mp B m) t 4 = mp B m from rfl, same]; exact hB, frT.rf _⟩
    | 5, _ =>
      have hA := alF_lt hV1.1.t
      refine G_swl 4 rfl rfl rfl (by decide) (by decide) 121 rfl ?_
      refine G_call rfl (ev_pallLooks_22 hI hV1.1 (by omega)) ?_
      rintro r1 σ2 ⟨rfl, f2⟩
      rw [all_looks hV1.1]
      have hB2 := f2.pb (P := 22) (by decide) hB
      refine G_if rfl (fun q => ?_) (fun q => ?_)
      · have q := ilt q (by omega) (by omega)
        exact G_retZ rfl (Or.inl rfl) ⟨by rw [show ifI (okD1 (mp B m) t 5) = 0 from gt_f (fun e => absurd (show alF (mp B m).2.2.2 (mp B m).1 ≤ t from e) (by omega))], by rw [show nxD1 (mp B m) t 5 = mp B m from rfl, same]; exact hB2, f2.t⟩
      · have q := nlt q (by omega) (by omega)
        exact G_retZ rfl (Or.inr rfl) ⟨by rw [show ifI (okD1 (mp B m) t 5) = 1 from gt_t q], by rw [show nxD1 (mp B m) t 5 = mp B m from rfl, same]; exact hB2, f2.t⟩
    | k + 6, hk =>
      refine G_swd rfl (Or.inr (by rw [nI_toInt (by omega)]; omega)) ?_
      exact G_retZ rfl (Or.inl rfl) ⟨by rw [show ifI (okD1 (mp B m) t (k + 6)) = 0 from gt_f (fun e => e)], by rw [show nxD1 (mp B m) t (k + 6) = mp B m from rfl, same]; exact hB, frT.rf _⟩
  refine G_div rfl (by decide) ?_
  refine G_div rfl (by decide) ?_
  refine G_div rfl (by decide) ?_
  rw [e1, e2, e3, mb121]
  refine G_if rfl (fun q => ?_) (fun q => ?_)
  · have q := ile (b := 121) q (by omega) (by decide)
    have hm : d / 100 % 10 < 2 := by omega
    refine (main (d / 100 % 10) (d % 100) (d / 1000) hm (Nat.mod_lt _ (by decide)) (by omega) e4).mono ?_
    rintro r2 σ2 ⟨g1, g2, g3⟩
    refine ⟨?_, ?_, g3⟩
    · rw [g1]
      congr 2
      exact gt_cg ⟨fun e => ⟨hm, e⟩, fun e => e.2⟩ _ _
    · unfold nxD
      rw [gt_t hm]
      exact g2
  · have q := nle (b := 121) q (by omega) (by decide)
    have hm : ¬ d / 100 % 10 < 2 := by omega
    refine G_retZ rfl (Or.inl rfl) ⟨?_, ?_, frT.rf _⟩
    · rw [show ifI (okD B d) = 0 from gt_f (fun e => hm e.1)]
    · unfold nxD
      rw [gt_f hm]
      exact hB
noncomputable def jgF (r : Nat) : Nat → Nat → BM → Int32
  | 0, _, _ => -9
  | j + 1, i, B => gt (okD B (r / 10000 ^ j % 10000)) (jgF r j (i + 1) (nxD B (r / 10000 ^ j % 10000))) (nI i)
def okJ (n : Int32) (row : Int64) : Prop := ∃ k r, 1 ≤ k ∧ k ≤ 4 ∧ r < 10000 ^ k ∧ n = nI k ∧ row = lN r
noncomputable def fJudge (S : SS) (n : Int32) (row : Int64) : Int32 := gt (okJ n row) (jgF row.toInt.toNat n.toNatClampNeg 0 S.1) (-2)
theorem pw {j : Nat} (hj : j ≤ 4) : 0 < 10000 ^ j ∧ 10000 ^ j < 2 ^ 63 := by
  match j, hj with
  | 0, _ => decide
  | 1, _ => decide
  | 2, _ => decide
  | 3, _ => decide
  | 4, _ => decide
theorem irng1 {x : Int32} {n : Nat} (hn : n < 2147483648) : (1 ≤ x ∧ x ≤ nI n) ↔ ∃ k, 1 ≤ k ∧ k ≤ n ∧ x = nI k := by
  constructor
  · rintro ⟨h1, h2⟩
    have h0 : 0 ≤ x := Int32.le_trans (by decide) h1
    obtain ⟨k, hk, rfl⟩ := (irng hn).mp ⟨h0, h2⟩
    exact ⟨k, ile (a := 1) h1 (by decide) (by omega), hk, rfl⟩
  · rintro ⟨k, h1, h2, rfl⟩
    exact ⟨nI_le (a := 1) h1 (by omega), nI_le h2 hn⟩
def unJ : Nat → Nat
  | 0 => 0
  | j + 1 => 10000 ^ j
theorem unJ_div (j : Nat) : 10000 ^ j / 10000 = unJ j := by
  cases j with
  | zero => rfl
  | succ j =>
    rw [Nat.pow_succ, Nat.mul_div_cancel _ (by decide)]
    rfl
theorem lz {n : Nat} (h0 : 0 < n) (h : n < 2 ^ 63) : ¬ lN n = 0 := fun e => by
  have := (pk_lEQ (b := 0) h (by decide)).mp e
  omega
theorem c_judge {S : SS} (hS : SI S) (n : Int32) (row : Int64) : CSpec 65 [.inl n, .inr (.inl row)] S (.inl (fJudge S n row)) S := by
  intro σ hC
  unfold fJudge
  have bad : ¬ okJ n row → RR 65 16 [some rT, some (.inl n), some (.inr (.inl row)), none, none, none, none] [] σ (fun q σ' => q = some (.inl (gt (okJ n row) (jgF row.toInt.toNat n.toNatClampNeg 0 S.1) (-2))) ∧ CS σ' S ∧ mEq σ σ') := by
    intro h
    rw [gt_f h]
    exact G_ret rfl ⟨rfl, hC, mEq.rf _⟩
  have hrow : okJ n row → ¬ row < 0 := by
    rintro ⟨k, r, h1, h2, h3, h4, h5⟩ h
    have hp := pw h2
    rw [h5] at h
    have := (pk_lLT (b := 0) (by omega) (by decide)).mp h
    omega
  have hnn : okJ n row → 1 ≤ n ∧ n ≤ 4 := by
    rintro ⟨k, r, h1, h2, h3, h4, h5⟩
    exact (irng1 (n := 4) (by decide)).mpr ⟨k, h1, h2, h4⟩
  refine G_if rfl (fun q1 => ?_) (fun q1 => ?_)
  · exact bad (fun e => absurd q1 (Int32.not_lt.mpr (hnn e).1))
  refine G_if rfl (fun q2 => ?_) (fun q2 => ?_)
  · exact bad (fun e => absurd q2 (Int32.not_lt.mpr (hnn e).2))
  refine G_if rfl (fun q3 => ?_) (fun q3 => ?_)
  · have q3 : ¬ row < 0 := fun e => absurd ((lg_cmp_lt _ _).mpr e) (Int32.not_lt.mpr q3)
    obtain ⟨k, hk1, hk4, rfl⟩ := (irng1 (n := 4) (by decide)).mp ⟨Int32.not_lt.mp q1, Int32.not_lt.mp q2⟩
    obtain ⟨r, hr, rfl⟩ := pk_lOf q3
    have hpk := pw (j := k - 1) (by omega)
    have hpk2 := pw (j := k) (by omega)
    have hkk : 10000 ^ k = 10000 * 10000 ^ (k - 1) := by
      rw [show k = k - 1 + 1 by omega, Nat.pow_succ, Nat.mul_comm]
      rfl
    have behind : RR 65 45 [some rT, some (.inl (nI k)), some (.inr (.inl (lN r))), none, some (.inr (.inl (lN (10000 ^ (k - 1))))), none, some (.inl (nI k))] [] σ (fun q σ' => q = some (.inl (gt (okJ (nI k) (lN r)) (jgF (lN r).toInt.toNat (nI k).toNatClampNeg 0 S.1) (-2))) ∧ CS σ' S ∧ mEq σ σ') := by
      refine G_ldiv rfl (lz hpk.1 hpk.2) ?_
      rw [pk_lDiv hr hpk.1 hpk.2]
      have hrd : r / 10000 ^ (k - 1) < 2 ^ 63 := Nat.lt_of_le_of_lt (Nat.div_le_self _ _) hr
      have hiff : r / 10000 ^ (k - 1) < 10000 ↔ r < 10000 ^ k := by
        rw [Nat.div_lt_iff_lt_mul hpk.1, hkk]
      refine G_if rfl (fun q => ?_) (fun q => ?_)
      · have q := (pk_lLT (b := 10000) hrd (by decide)).mp ((lg_cmp_lt _ _).mp q)
        have hJ : okJ (nI k) (lN r) := ⟨k, r, hk1, hk4, hiff.mp q, rfl, rfl⟩
        rw [gt_t hJ, nI_clamp (by omega), pk_lT hr, Int.toNat_natCast]
        refine G_call rfl (ev_bcopy (b := 1) hC.1 hS.1.sz (by decide)) ?_
        rintro r1 σ1 ⟨rfl, b1, f1⟩
        have loop : ∀ (j i : Nat) (B : BM) (x6 : Int32) (x4 : Int64) (σc : Hp), i + j = k → x6 = nI i → x4 = lN (unJ j) → isB σc 1 B → InvB B → frB 1 σ σc → RR 65 73 [some rT, some (.inl (nI k)), some (.inr (.inl (lN r))), none, some (.inr (.inl x4)), none, some (.inl x6)] [] σc (fun q σ' => q = some (.inl (jgF r j i B)) ∧ CS σ' S ∧ mEq σ σ') := by
          intro j
          induction j with
          | zero =>
            intro i B x6 x4 σc hi hx6 hx4 hB hV hf
            refine G_if rfl (fun q => ?_) (fun q => ?_)
            · exact G_ret rfl ⟨rfl, hC.trB hf, hf.m⟩
            · rw [hx6] at q
              exact absurd (nle q (by omega) (by omega)) (by omega)
          | succ j ih =>
            intro i B x6 x4 σc hi hx6 hx4 hB hV hf
            have hpj := pw (j := j) (by omega)
            have hx4 : x4 = lN (10000 ^ j) := hx4
            refine G_if rfl (fun q => ?_) (fun q => ?_)
            · rw [hx6] at q
              exact absurd (ile q (by omega) (by omega)) (by omega)
            refine G_if rfl (fun q => ?_) (fun q => ?_)
            · rw [hx4] at q
              exact absurd ((lg_cmp_gt _ _).mpr ((pk_lLT (a := 0) (by decide) hpj.2).mpr hpj.1)) (Int32.not_lt.mpr q)
            rw [hx4]
            refine G_ldiv rfl (lz hpj.1 hpj.2) ?_
            refine G_ldiv rfl (by decide) ?_
            have hrj : r / 10000 ^ j < 2 ^ 63 := Nat.lt_of_le_of_lt (Nat.div_le_self _ _) hr
            have e : jlrem (lN (r / 10000 ^ j)) 10000 = lN (r / 10000 ^ j % 10000) := pk_lRem (b := 10000) hrj (by decide) (by decide)
            refine G_callv rfl (by rw [pk_lDiv hr hpj.1 hpj.2, e, lN_i]) (ev_canBe hB hV (d := r / 10000 ^ j % 10000) (Nat.mod_lt _ (by decide))) ?_
            rintro r1 σ2 ⟨rfl, b2, f2⟩
            have hf2 := hf.tr f2
            by_cases hA : okD B (r / 10000 ^ j % 10000)
            · rw [show ifI (okD B (r / 10000 ^ j % 10000)) = 1 from gt_t hA, show jgF r (j + 1) i B = jgF r j (i + 1) (nxD B (r / 10000 ^ j % 10000)) from gt_t hA]
              refine G_if rfl (fun q => ?_) (fun q => absurd (by decide) q)
              refine G_ldiv rfl (by decide) ?_
              refine G_to [73] rfl ?_
              exact ih (i + 1) _ _ _ _ (by omega) (by rw [hx6, nI_1]) ((pk_lDiv (b := 10000) hpj.2 (by decide) (by decide)).trans (by rw [unJ_div])) b2 (hV.nx _) hf2
            · rw [show ifI (okD B (r / 10000 ^ j % 10000)) = 0 from gt_f hA, show jgF r (j + 1) i B = nI i from gt_f hA]
              refine G_if rfl (fun q => absurd rfl q) (fun q => ?_)
              exact G_ret rfl ⟨by rw [hx6], hC.trB hf2, hf2.m⟩
        refine G_to [73] rfl ?_
        refine loop k 0 S.1 _ _ σ1 (by omega) nI_0.symm ?_ b1 hS.1 f1
        rw [show k = k - 1 + 1 by omega]
        rfl
      · have q : ¬ r / 10000 ^ (k - 1) < 10000 := fun e => q ((lg_cmp_lt _ _).mpr ((pk_lLT (b := 10000) hrd (by decide)).mpr e))
        have hJ : ¬ okJ (nI k) (lN r) := by
          rintro ⟨k', r', h1, h2, h3, h4, h5⟩
          have h4 := ieq h4 (by omega) (by omega)
          subst h4
          have h5 := (pk_lEQ hr (by omega)).mp h5
          subst h5
          exact q (hiff.mpr h3)
        rw [gt_f hJ]
        exact G_ret rfl ⟨rfl, hC, mEq.rf _⟩
    have loop1 : ∀ (n i : Nat) (x6 : Int32) (x4 : Int64), i + n = k → 1 ≤ i → x6 = nI i → x4 = lN (10000 ^ (i - 1)) → RR 65 25 [some rT, some (.inl (nI k)), some (.inr (.inl (lN r))), none, some (.inr (.inl x4)), none, some (.inl x6)] [] σ (fun q σ' => q = some (.inl (gt (okJ (nI k) (lN r)) (jgF (lN r).toInt.toNat (nI k).toNatClampNeg 0 S.1) (-2))) ∧ CS σ' S ∧ mEq σ σ') := by
      intro n
      induction n with
      | zero =>
        intro i x6 x4 hi h1 hx6 hx4
        have e : i = k := by omega
        rw [hx6, hx4, e]
        refine G_if rfl (fun q => ?_) (fun q => ?_)
        · exact behind
        · exact absurd (nle q (by omega) (by omega)) (by omega)
      | succ n ih =>
        intro i x6 x4 hi h1 hx6 hx4
        refine G_if rfl (fun q => ?_) (fun q => ?_)
        · rw [hx6] at q
          exact absurd (ile q (by omega) (by omega)) (by omega)
        · refine G_to [25] rfl ?_
          refine ih (i + 1) _ _ (by omega) (by omega) (by rw [hx6, nI_1]) ?_
          rw [hx4]
          refine (lN_mul _ 10000).trans ?_
          rw [← Nat.pow_succ, show (i - 1).succ = i + 1 - 1 by omega]
    refine G_to [25] rfl ?_
    refine loop1 (k - 1) 1 _ _ (by omega) (by decide) rfl rfl
  · have q3 : row < 0 := (lg_cmp_lt _ _).mp (Int32.not_le.mp q3)
    exact bad (fun e => hrow e q3)
theorem ev_longPower {k : Nat} (hk : k ≤ 4) (σ : Hp) : Ev 134 [.inr (.inl 10000), .inl (nI k)] σ (fun r σ' => r = some (.inr (.inl (lN (10000 ^ k)))) ∧ σ' = σ) := by
  have loop : ∀ (n i : Nat) (x5 : Int32) (x3 : Int64), i + n = k → x5 = nI i → x3 = lN (10000 ^ i) → RR 134 5 [some (.inr (.inl 10000)), none, some (.inl (nI k)), some (.inr (.inl x3)), none, some (.inl x5)] [] σ (fun r σ' => r = some (.inr (.inl (lN (10000 ^ k)))) ∧ σ' = σ) := by
    intro n
    induction n with
    | zero =>
      intro i x5 x3 hi hx5 hx3
      have e : i = k := by omega
      refine G_if rfl (fun q => ?_) (fun q => ?_)
      · exact G_ret rfl ⟨by rw [hx3, e], rfl⟩
      · rw [hx5] at q
        exact absurd (nle q (by omega) (by omega)) (by omega)
    | succ n ih =>
      intro i x5 x3 hi hx5 hx3
      refine G_if rfl (fun q => ?_) (fun q => ?_)
      · rw [hx5] at q
        exact absurd (ile q (by omega) (by omega)) (by omega)
      · refine G_to [5] rfl ?_
        refine ih (i + 1) _ _ (by omega) (by rw [hx5, nI_1]) ?_
        rw [hx3]
        refine (lN_mul _ 10000).trans ?_
        rw [← Nat.pow_succ]
  refine G_to [5] rfl ?_
  exact loop k 0 _ _ (by omega) nI_0.symm rfl
theorem m_judge {S : SS} (hS : SI S) (n : Int32) (row : Int64) : MSpec 133 [.inl n, .inr (.inl row)] S (.inl (fJudge S n row)) S := by
  intro σ hM
  have hM0 := hM.scr (frS.th σ)
  have hc0 := (frS.th σ).c
  unfold fJudge
  have bad : ¬ okJ n row → RR 133 34 [some rMo, some (.inl n), some (.inr (.inl row)), none, none] [] (hset σ.1 6 0 0 0, σ.2) (fun q σ' => q = some (.inl (gt (okJ n row) (jgF row.toInt.toNat n.toNatClampNeg 0 S.1) (-2))) ∧ MS σ' S ∧ cEq σ σ') := by
    intro h
    rw [gt_f h]
    exact G_ret rfl ⟨rfl, hM0, hc0⟩
  have hnn : okJ n row → 1 ≤ n ∧ n ≤ 4 := by
    rintro ⟨k, r, h1, h2, h3, h4, h5⟩
    exact (irng1 (n := 4) (by decide)).mpr ⟨k, h1, h2, h4⟩
  refine G_call rfl (ev_inI n 1 4 _) ?_
  rintro r1 σ1 ⟨rfl, ⟨g1, rfl⟩ | ⟨g1, rfl⟩⟩
  · refine G_if rfl (fun q => absurd q (by decide)) (fun q => ?_)
    obtain ⟨k, hk1, hk4, rfl⟩ := (irng1 (n := 4) (by decide)).mp g1
    have hpk := pw hk4
    refine G_call rfl (ev_longPower hk4 _) ?_
    rintro r1 σ2 ⟨rfl, rfl⟩
    have e1 : lN (10000 ^ k) - 1 = lN (10000 ^ k - 1) := lN_sub (b := 1) (by omega)
    refine G_callv rfl (by rw [e1]) (ev_in row 0 (lN (10000 ^ k - 1)) _) ?_
    rintro r1 σ3 ⟨rfl, ⟨g2, g3, rfl⟩ | ⟨g2, rfl⟩⟩
    · refine G_if rfl (fun q => ?_) (fun q => absurd (by decide) q)
      have q3 : ¬ row < 0 := fun e => by
        have h1 := Int64.lt_iff_toInt_lt.mp e
        have h2 := Int64.le_iff_toInt_le.mp g2
        omega
      obtain ⟨r, hr, rfl⟩ := pk_lOf q3
      have hr2 := (pk_lLE hr (by omega)).mp g3
      have hJ : okJ (nI k) (lN r) := ⟨k, r, hk1, hk4, by omega, rfl, rfl⟩
      rw [gt_t hJ, nI_clamp (by omega), pk_lT hr, Int.toNat_natCast]
      refine G_call rfl (ev_begin hM0.1 hS.1.sz) ?_
      rintro r1 σ4 ⟨rfl, b4, f4⟩
      have loop : ∀ (j i : Nat) (B : BM) (x4 : Int32) (σc : Hp), i + j = k → x4 = nI i → isPB σc 22 0 B → InvB B → frT (hset σ.1 6 0 0 0, σ.2) σc → RR 133 44 [some rMo, some (.inl (nI k)), some (.inr (.inl (lN r))), none, some (.inl x4)] [] σc (fun q σ' => q = some (.inl (jgF r j i B)) ∧ MS σ' S ∧ cEq σ σ') := by
        intro j
        induction j with
        | zero =>
          intro i B x4 σc hi hx4 hB hV hf
          refine G_if rfl (fun q => ?_) (fun q => ?_)
          · exact G_ret rfl ⟨rfl, hM0.t hf, hc0.tr hf.c⟩
          · rw [hx4] at q
            exact absurd (nle q (by omega) (by omega)) (by omega)
        | succ j ih =>
          intro i B x4 σc hi hx4 hB hV hf
          have hpj := pw (j := j) (by omega)
          refine G_if rfl (fun q => ?_) (fun q => ?_)
          · rw [hx4] at q
            exact absurd (ile q (by omega) (by omega)) (by omega)
          have e2 : nI k - 1 - x4 = nI j := by
            rw [hx4, show (1 : Int32) = nI 1 from rfl, pk_sub (by omega), pk_sub (by omega)]
            congr 1
            omega
          refine G_callv rfl (by rw [e2]) (ev_longPower (k := j) (by omega) _) ?_
          rintro r1 σ5 ⟨rfl, rfl⟩
          refine G_ldiv rfl (lz hpj.1 hpj.2) ?_
          refine G_ldiv rfl (by decide) ?_
          have hrj : r / 10000 ^ j < 2 ^ 63 := Nat.lt_of_le_of_lt (Nat.div_le_self _ _) hr
          have e : jlrem (lN (r / 10000 ^ j)) 10000 = lN (r / 10000 ^ j % 10000) := pk_lRem (b := 10000) hrj (by decide) (by decide)
          refine G_callv rfl (by rw [pk_lDiv hr hpj.1 hpj.2, e, lN_i]) (ev_does hB hV (d := r / 10000 ^ j % 10000) (Nat.mod_lt _ (by decide))) ?_
          rintro r1 σ6 ⟨rfl, b6, f6⟩
          have hf6 := hf.tr f6
          by_cases hA : okD B (r / 10000 ^ j % 10000)
          · rw [show ifI (okD B (r / 10000 ^ j % 10000)) = 1 from gt_t hA, show jgF r (j + 1) i B = jgF r j (i + 1) (nxD B (r / 10000 ^ j % 10000)) from gt_t hA]
            refine G_if rfl (fun q => ?_) (fun q => absurd (by decide) q)
            refine G_to [44] rfl ?_
            exact ih (i + 1) _ _ _ (by omega) (by rw [hx4, nI_1]) b6 (hV.nx _) hf6
          · rw [show ifI (okD B (r / 10000 ^ j % 10000)) = 0 from gt_f hA, show jgF r (j + 1) i B = nI i from gt_f hA]
            refine G_if rfl (fun q => absurd rfl q) (fun q => ?_)
            exact G_ret rfl ⟨by rw [hx4], hM0.t hf6, hc0.tr hf6.c⟩
      refine G_to [44] rfl ?_
      exact loop k 0 S.1 _ σ4 (by omega) nI_0.symm b4 hS.1 f4
    · refine G_if rfl (fun q => absurd rfl q) (fun q => ?_)
      refine bad ?_
      rintro ⟨k', r', h1, h2, h3, h4, h5⟩
      have h4 := ieq h4 (by omega) (by omega)
      subst h4
      refine g2 ⟨?_, ?_⟩
      · rw [h5]
        exact (pk_lLE (a := 0) (by decide) (by omega)).mpr (Nat.zero_le _)
      · rw [h5]
        exact (pk_lLE (by omega) (by omega)).mpr (by omega)
  · refine G_if rfl (fun q => ?_) (fun q => absurd rfl q)
    exact bad (fun e => g1 (hnn e))
