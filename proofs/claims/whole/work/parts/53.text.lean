/-! The text: what it tells, where it goes wrong. -/
def dg (t : TX) (p lo hi : Nat) : Prop := p < t.1 ∧ 48 + lo ≤ t.2 p ∧ t.2 p ≤ 48 + hi
def tkO (O : Nat → Nat) (h : Nat) : Nat → Nat := fun l => if l < h then 0 else if l = h then O l + 1 else O l
def mayO (O : Nat → Nat) (h : Nat) : Prop := O h ≠ 3 ∧ ∀ l, l < h → O l ≠ 0
def clO (O : Nat → Nat) : Prop := ∀ h, 1 ≤ h → h ≤ 5 → 0 < O h → O (h - 1) ≠ 0
def tT (t : TX) (i : Nat) : Nat := t.2 (1 + 3 * i) - 48
def tV (t : TX) (i : Nat) : Nat := t.2 (3 + 3 * i) - 48
def tK (t : TX) : Nat → Nat
  | 0 => t.2 2 - 48
  | i + 1 => tK t i + (t.2 (2 + 3 * (i + 1)) - 48)
def shM (t : TX) (n : Nat) : AM := (n, tK t, tV t, tT t)
noncomputable def rdF (t : TX) : Nat → Nat → (Nat → Nat) → Int32
  | 0, _, _ => 0
  | n + 1, k, O => gt (1 + 3 * k = t.1) (gt (clO O) (-9) (nI t.1)) (gt (dg t (1 + 3 * k) 0 5 ∧ mayO O (tT t k)) (gt (dg t (2 + 3 * k) 1 4) (gt (dg t (3 + 3 * k) 0 9) (rdF t n (k + 1) (tkO O (tT t k))) (nI (3 + 3 * k))) (nI (2 + 3 * k))) (nI (1 + 3 * k)))
noncomputable def faultF (t : TX) : Int32 := gt (t.1 = 0 ∨ t.2 0 ≠ 76) 0 (rdF t 22 0 (fun _ => 0))
/-- what is known while items are read -/
def PI (T : Nat → Nat) (k : Nat) (O : Nat → Nat) (rh : Nat) : Prop := (∀ l q, 1 ≤ l → 1 ≤ q → q ≤ k → l ≤ T (q - 1) → ∀ p, p < q → (p = 0 ∨ (1 ≤ p ∧ l ≤ T (p - 1))) → ∃ r, p < r ∧ r < q ∧ T (r - 1) = l - 1) ∧ (∀ l, 1 ≤ l → O (l - 1) ≠ 0 → ∀ p, p ≤ k → (p = 0 ∨ (1 ≤ p ∧ l ≤ T (p - 1))) → ∃ r, p < r ∧ r ≤ k ∧ T (r - 1) = l - 1) ∧ (∀ i, i < k → T i < rh) ∧ (rh = 0 ∨ 0 < O (rh - 1)) ∧ (∀ l, rh ≤ l → O l = 0) ∧ (∀ l, O l ≤ 3) ∧ (rh ≤ 6)
theorem PI.a {T : Nat → Nat} {k rh : Nat} {O : Nat → Nat} (h : PI T k O rh) : ∀ l q, 1 ≤ l → 1 ≤ q → q ≤ k → l ≤ T (q - 1) → ∀ p, p < q → (p = 0 ∨ (1 ≤ p ∧ l ≤ T (p - 1))) → ∃ r, p < r ∧ r < q ∧ T (r - 1) = l - 1 := h.1
theorem PI.b {T : Nat → Nat} {k rh : Nat} {O : Nat → Nat} (h : PI T k O rh) : ∀ l, 1 ≤ l → O (l - 1) ≠ 0 → ∀ p, p ≤ k → (p = 0 ∨ (1 ≤ p ∧ l ≤ T (p - 1))) → ∃ r, p < r ∧ r ≤ k ∧ T (r - 1) = l - 1 := h.2.1
theorem PI.c {T : Nat → Nat} {k rh : Nat} {O : Nat → Nat} (h : PI T k O rh) : ∀ i, i < k → T i < rh := h.2.2.1
theorem PI.d {T : Nat → Nat} {k rh : Nat} {O : Nat → Nat} (h : PI T k O rh) : rh = 0 ∨ 0 < O (rh - 1) := h.2.2.2.1
theorem PI.e {T : Nat → Nat} {k rh : Nat} {O : Nat → Nat} (h : PI T k O rh) : ∀ l, rh ≤ l → O l = 0 := h.2.2.2.2.1
theorem PI.f {T : Nat → Nat} {k rh : Nat} {O : Nat → Nat} (h : PI T k O rh) : ∀ l, O l ≤ 3 := h.2.2.2.2.2.1
theorem PI.g {T : Nat → Nat} {k rh : Nat} {O : Nat → Nat} (h : PI T k O rh) : rh ≤ 6 := h.2.2.2.2.2.2
theorem PI.z (T : Nat → Nat) : PI T 0 (fun _ => 0) 0 := ⟨fun l q h1 h2 h3 => by omega, fun l h1 h2 => absurd rfl h2, fun i hi => by omega, Or.inl rfl, fun _ _ => rfl, fun _ => Nat.zero_le _, by omega⟩
theorem PI.s {T : Nat → Nat} {k rh : Nat} {O : Nat → Nat} (h : PI T k O rh) (hh : T k ≤ 5) (hm : mayO O (T k)) : PI T (k + 1) (tkO O (T k)) (max rh (T k + 1)) := by
  obtain ⟨a, b, c, d, e, f, g⟩ := h
  refine ⟨?_, ?_, ?_, ?_, ?_, ?_, ?_⟩
  · intro l q h1 h2 h3 h4 p hp hf
    rcases Nat.lt_or_ge k q with hq | hq
    · have hq : q = k + 1 := by omega
      subst hq
      rw [Nat.add_sub_cancel] at h4
      obtain ⟨r, r1, r2, r3⟩ := b l h1 (hm.2 (l - 1) (by omega)) p (by omega) hf
      exact ⟨r, r1, by omega, r3⟩
    · exact a l q h1 h2 hq h4 p hp hf
  · intro l h1 h2 p hp hf
    unfold tkO at h2
    by_cases q1 : l - 1 < T k
    · rw [if_pos q1] at h2
      exact absurd rfl h2
    · rw [if_neg q1] at h2
      have hpk : p ≤ k := by
        rcases Nat.lt_or_ge k p with q | q
        · have : p = k + 1 := by omega
          subst this
          rw [Nat.add_sub_cancel] at hf
          omega
        · exact q
      by_cases q2 : l - 1 = T k
      · exact ⟨k + 1, by omega, Nat.le_refl _, by rw [Nat.add_sub_cancel]; exact q2.symm⟩
      · rw [if_neg q2] at h2
        obtain ⟨r, r1, r2, r3⟩ := b l h1 h2 p hpk hf
        exact ⟨r, r1, by omega, r3⟩
  · intro i hi
    rcases Nat.lt_or_ge i k with q | q
    · have := c i q
      omega
    · rw [show i = k by omega]
      omega
  · right
    unfold tkO
    by_cases q : rh ≤ T k + 1
    · rw [Nat.max_eq_right q, Nat.add_sub_cancel, if_neg (by omega), if_pos rfl]
      omega
    · rw [Nat.max_eq_left (by omega), if_neg (by omega), if_neg (by omega)]
      rcases d with d | d
      · omega
      · exact d
  · intro l hl
    unfold tkO
    rw [if_neg (by omega), if_neg (by omega)]
    exact e l (by omega)
  · intro l
    unfold tkO
    by_cases q1 : l < T k
    · rw [if_pos q1]
      omega
    · rw [if_neg q1]
      by_cases q2 : l = T k
      · rw [if_pos q2, q2]
        have := f (T k)
        have := hm.1
        omega
      · rw [if_neg q2]
        exact f l
  · omega
theorem PI.cl {T : Nat → Nat} {k rh : Nat} {O : Nat → Nat} (h : PI T k O rh) : clO O ↔ ∀ l, l < rh → 0 < O l := by
  have hg := h.g
  constructor
  · intro hc l hl
    have : ∀ d, d < rh → 0 < O (rh - 1 - d) := by
      intro d
      induction d with
      | zero =>
        intro hd
        rcases h.d with q | q
        · omega
        · exact q
      | succ d ih =>
        intro hd
        have h1 := ih (by omega)
        have h2 := hc (rh - 1 - d) (by omega) (by omega) h1
        rw [show rh - 1 - (d + 1) = rh - 1 - d - 1 by omega]
        omega
    have := this (rh - 1 - l) (by omega)
    rwa [show rh - 1 - (rh - 1 - l) = l by omega] at this
  · intro hc x h1 h2 h3
    rcases Nat.lt_or_ge x rh with q | q
    · have := hc (x - 1) (by omega)
      omega
    · have := h.e x q
      omega
theorem PI.lb {T : Nat → Nat} {k rh : Nat} {O : Nat → Nat} (h : PI T k O rh) (hc : clO O) : LB k T := by
  intro l hl hex p q hpq hq hfp hfq
  obtain ⟨i, hi, hil⟩ := hex
  have hp : p ≤ k := by omega
  have hfp : p = 0 ∨ (1 ≤ p ∧ l ≤ T (p - 1)) := by
    rcases hfp with q | q | q
    · exact Or.inl q
    · omega
    · exact Or.inr ⟨q.1, q.2.2⟩
  rcases Nat.lt_or_ge k q with hqk | hqk
  · have := h.c i hi
    have h1 := h.cl.mp hc (l - 1) (by omega)
    obtain ⟨r, r1, r2, r3⟩ := h.b l hl (by omega) p hp hfp
    exact ⟨r, r1, by omega, r3⟩
  · rcases hfq with e | e | e
    · omega
    · omega
    · exact h.a l q hl e.1 e.2.1 e.2.2 p hpq hfp
/-- when nothing is wrong -/
def okT (t : TX) (n : Nat) : Prop := t.1 = 1 + 3 * n ∧ ∀ i, i < n → dg t (1 + 3 * i) 0 5 ∧ dg t (2 + 3 * i) 1 4 ∧ dg t (3 + 3 * i) 0 9
theorem rdF_ok {t : TX} (ht : t.1 ≤ 64) : ∀ (n k rh : Nat) (O : Nat → Nat), PI (tT t) k O rh → (∀ i, i < k → dg t (1 + 3 * i) 0 5 ∧ dg t (2 + 3 * i) 1 4 ∧ dg t (3 + 3 * i) 0 9) → rdF t n k O = -9 → ∃ N, okT t N ∧ LB N (tT t)
  | 0, _, _, _, _, _, h => absurd h (by unfold rdF; decide)
  | n + 1, k, rh, O, hp, hk, h => by
    unfold rdF at h
    by_cases h1 : 1 + 3 * k = t.1
    · rw [gt_t h1] at h
      by_cases h2 : clO O
      · exact ⟨k, ⟨h1.symm, hk⟩, hp.lb h2⟩
      · rw [gt_f h2] at h
        exact absurd h (no9 (by omega))
    · rw [gt_f h1] at h
      by_cases h2 : dg t (1 + 3 * k) 0 5 ∧ mayO O (tT t k)
      · rw [gt_t h2] at h
        by_cases h3 : dg t (2 + 3 * k) 1 4
        · rw [gt_t h3] at h
          by_cases h4 : dg t (3 + 3 * k) 0 9
          · rw [gt_t h4] at h
            refine rdF_ok ht n (k + 1) _ _ (hp.s ?_ h2.2) (fun i hi => ?_) h
            · have := h2.1.2.2
              unfold tT
              omega
            · rcases Nat.lt_or_ge i k with q | q
              · exact hk i q
              · rw [show i = k by omega]
                exact ⟨h2.1, h3, h4⟩
          · rw [gt_f h4] at h
            exact absurd h (no9 (by have := h3.1; omega))
        · rw [gt_f h3] at h
          exact absurd h (no9 (by have := h2.1.1; omega))
      · rw [gt_f h2] at h
        by_cases q : 1 + 3 * k < 2147483648
        · exact absurd h (no9 q)
        · exfalso
          have h5 : k ≤ 21 ∨ 21 < k := by omega
          rcases h5 with h5 | h5
          · omega
          · have := (hk 21 h5).1.1
            omega
theorem tK_b {t : TX} {n : Nat} (h : okT t n) : ∀ i, i < n → tK t i ≤ 4 * (i + 1)
  | 0, hi => by
    have h2 : t.2 2 ≤ 48 + 4 := (h.2 0 hi).2.1.2.2
    simp only [tK]
    omega
  | i + 1, hi => by
    have h1 := tK_b h i (by omega)
    have := (h.2 (i + 1) hi).2.1.2.2
    simp only [tK]
    omega
theorem okT_inv {t : TX} (ht : t.1 ≤ 64) {n : Nat} (h : okT t n) (hl : LB n (tT t)) : Inv (shM t n) := by
  have h1 := h.1
  refine ⟨⟨?_, fun i hi => ?_, fun i hi => ?_⟩, hl⟩
  · show n ≤ 40
    omega
  · have hi : i < n := hi
    obtain ⟨q1, q2, q3⟩ := h.2 i hi
    have := tK_b h i hi
    have q1 := q1.2.2
    have q3 := q3.2.2
    refine ⟨?_, ?_, ?_⟩
    · show tK t i < 100
      omega
    · show t.2 (3 + 3 * i) - 48 < 1000000
      omega
    · show t.2 (1 + 3 * i) - 48 < 64
      omega
  · have hi : i + 1 < n := hi
    have q2 := (h.2 (i + 1) hi).2.1.2.1
    show tK t i < tK t i + (t.2 (2 + 3 * (i + 1)) - 48)
    omega
theorem faultF_ok {t : TX} (ht : t.1 ≤ 64) (h : faultF t = -9) : okT t ((t.1 - 1) / 3) ∧ Inv (shM t ((t.1 - 1) / 3)) := by
  unfold faultF at h
  by_cases h1 : t.1 = 0 ∨ t.2 0 ≠ 76
  · rw [gt_t h1] at h
    exact absurd h (by decide)
  · rw [gt_f h1] at h
    obtain ⟨N, h2, h3⟩ := rdF_ok ht 22 0 0 _ (PI.z _) (fun i hi => by omega) h
    have := h2.1
    rw [show (t.1 - 1) / 3 = N by omega]
    exact ⟨h2, okT_inv ht h2 h3⟩
theorem fig_lt {c : Nat} (hc : c < 256) (b : Nat) (hb : b < 256) : nI c - 48 < nI b ↔ c < 48 + b := by
  rw [Int32.lt_iff_toInt_lt, show (48 : Int32) = nI 48 from rfl, pk_sub_toInt (by omega) (by omega), nI_toInt (by omega)]
  omega
theorem fig_le {c : Nat} (hc : c < 256) (b : Nat) (hb : b < 256) : nI c - 48 ≤ nI b ↔ c ≤ 48 + b := by
  rw [Int32.le_iff_toInt_le, show (48 : Int32) = nI 48 from rfl, pk_sub_toInt (by omega) (by omega), nI_toInt (by omega)]
  omega
theorem fig_ge {c : Nat} (hc : c < 256) (b : Nat) (hb : b < 256) : nI b ≤ nI c - 48 ↔ 48 + b ≤ c := by
  rw [Int32.le_iff_toInt_le, show (48 : Int32) = nI 48 from rfl, pk_sub_toInt (by omega) (by omega), nI_toInt (by omega)]
  omega
theorem fig_eq {c : Nat} (h : 48 ≤ c) : nI c - 48 = nI (c - 48) := by
  rw [show (48 : Int32) = nI 48 from rfl, pk_sub h]
/-- the class -/
abbrev rX : PV := .inr (.inr (4, 0))
def cO (σ : Hp) (O : Nat → Nat) : Prop := ∀ l, l < 6 → σ.1 14 0 l = nI (O l)
def fr14 (σ σ' : Hp) : Prop := (∀ k, k ≠ 14 → σ'.1 k = σ.1 k) ∧ σ'.2 = σ.2
theorem fr14.rf (σ : Hp) : fr14 σ σ := ⟨fun _ _ => rfl, rfl⟩
theorem fr14.tr {σ σ1 σ2 : Hp} (h : fr14 σ σ1) (h2 : fr14 σ1 σ2) : fr14 σ σ2 := ⟨fun k q => (h2.1 k q).trans (h.1 k q), h2.2.trans h.2⟩
theorem fr14.st {σ σ1 : Hp} {i : Nat} {v : Int32} (h : fr14 σ σ1) : fr14 σ (hset σ1.1 14 0 i v, σ1.2) := ⟨fun k q => by
  show hset σ1.1 14 0 i v k = _
  rw [hk q, h.1 k q], h.2⟩
theorem fr14.t {σ σ' : Hp} {t : TX} (h : fr14 σ σ') (ht : cTxt σ t) : cTxt σ' t := by
  unfold cTxt at ht ⊢
  rw [h.1 4 (by decide), h.1 13 (by decide)]
  exact ht
theorem fr14.cs {σ σ' : Hp} {S : SS} (h : fr14 σ σ') (hC : CS σ S) : CS σ' S := hC.txt (t := S.2.2.2.1) (fun k _ _ q => h.1 k q) h.2 (h.t hC.2.2.2.1)
theorem fr14.m {σ σ' : Hp} (h : fr14 σ σ') : mEq σ σ' := ⟨fun k q => h.1 k (by omega), by rw [h.2], by rw [h.2]⟩
section TX
variable {σ : Hp} {t : TX}
theorem ev_figure (ht : cTxt σ t) (hl : t.1 ≤ 64) {p : Nat} (hp : p < t.1) : Ev 38 [rX, .inl (nI p)] σ (fun r σ' => r = some (.inl (nI (t.2 p) - 48)) ∧ σ' = σ) := by
  refine G_ald rfl p rfl (by omega) (by decide) ?_
  rw [ht.2 p hp]
  exact G_ret rfl ⟨rfl, rfl⟩
theorem ev_takesHeight {O : Nat → Nat} (hO : cO σ O) (hO3 : ∀ l, O l ≤ 3) {c : Nat} (hc : c < 256) : Ev 39 [rX, .inl (nI c - 48)] σ (fun r σ' => (((48 ≤ c ∧ c ≤ 53) ∧ mayO O (c - 48)) ∧ r = some (.inl 1) ∧ cO σ' (tkO O (c - 48)) ∧ fr14 σ σ') ∨ (¬ ((48 ≤ c ∧ c ≤ 53) ∧ mayO O (c - 48)) ∧ r = some (.inl 0) ∧ fr14 σ σ')) := by
  refine G_if rfl (fun q => ?_) (fun q => ?_)
  · have q := (fig_lt hc 0 (by decide)).mp q
    exact G_retZ rfl (Or.inl rfl) (Or.inr ⟨fun e => by omega, rfl, fr14.rf _⟩)
  have q : 48 ≤ c := by
    rcases Nat.lt_or_ge c 48 with h | h
    · exact absurd ((fig_lt hc 0 (by decide)).mpr (by omega)) q
    · exact h
  refine G_if rfl (fun q2 => ?_) (fun q2 => ?_)
  · have q2 : ¬ c ≤ 53 := fun e => absurd ((fig_le hc 5 (by decide)).mpr (by omega)) (Int32.not_le.mpr q2)
    exact G_retZ rfl (Or.inl rfl) (Or.inr ⟨fun e => by omega, rfl, fr14.rf _⟩)
  have q2 : c ≤ 53 := by
    rcases Nat.lt_or_ge 53 c with h | h
    · refine absurd (Int32.not_le.mp (fun e => ?_)) q2
      have := (fig_le hc 5 (by decide)).mp e
      omega
    · exact h
  refine G_ald rfl (c - 48) (fig_eq q) (by omega) (by decide) ?_
  rw [hO (c - 48) (by omega), fig_eq q]
  have hcb : c - 48 ≤ 5 := by omega
  have hOh := hO3 (c - 48)
  refine G_if rfl (fun q3 => ?_) (fun q3 => ?_)
  · have q3 : O (c - 48) ≠ 3 := fun e => q3 (by rw [e]; rfl)
    have l2 : ∀ (n l : Nat) (x2 : Int32) (σc : Hp), x2 = nI l → l + n = c - 48 → (∀ i, i < 6 → σc.1 14 0 i = nI (if i < l then 0 else O i)) → fr14 σ σc → mayO O (c - 48) → RR 39 47 [some rX, some (.inl (nI (c - 48))), some (.inl x2)] [] σc (fun r σ' => (((48 ≤ c ∧ c ≤ 53) ∧ mayO O (c - 48)) ∧ r = some (.inl 1) ∧ cO σ' (tkO O (c - 48)) ∧ fr14 σ σ') ∨ (¬ ((48 ≤ c ∧ c ≤ 53) ∧ mayO O (c - 48)) ∧ r = some (.inl 0) ∧ fr14 σ σ')) := by
      intro n
      induction n with
      | zero =>
        intro l x2 σc hx hl hz hf hm
        have hl : l = c - 48 := hl
        refine G_if rfl (fun q4 => ?_) (fun q4 => ?_)
        · refine G_ald rfl (c - 48) rfl (by omega) (by decide) ?_
          refine G_ast rfl (c - 48) rfl (by omega) (by decide) ?_
          refine G_retZ rfl (Or.inr rfl) (Or.inl ⟨⟨⟨q, q2⟩, hm⟩, rfl, fun i hi => ?_, hf.st⟩)
          show hset σc.1 14 0 (c - 48) (σc.1 14 0 (c - 48) + 1) 14 0 i = nI (if i < c - 48 then 0 else if i = c - 48 then O i + 1 else O i)
          by_cases e : i = c - 48
          · rw [e, ix_eq0, hz _ (by omega), if_neg (by omega), nI_1, if_neg (by omega), if_pos rfl]
          · rw [hs_ne e, hz i hi, if_neg e, hl]
        · rw [hx, hl] at q4
          exact absurd (nI_le (Nat.le_refl _) (by omega)) q4
      | succ n ih =>
        intro l x2 σc hx hl hz hf hm
        refine G_if rfl (fun q4 => ?_) (fun q4 => ?_)
        · rw [hx] at q4
          exact absurd (ile q4 (by omega) (by omega)) (by omega)
        · refine G_ast rfl l hx (by omega) (by decide) ?_
          refine G_to [47] rfl ?_
          refine ih (l + 1) _ _ (by rw [hx, nI_1]) (by omega) (fun i hi => ?_) hf.st hm
          show hset σc.1 14 0 l 0 14 0 i = _
          by_cases e : i = l
          · rw [e, ix_eq0, if_pos (by omega)]
            rfl
          · rw [hs_ne e, hz i hi]
            by_cases e2 : i < l
            · rw [if_pos e2, if_pos (by omega)]
            · rw [if_neg e2, if_neg (by omega)]
    have l1 : ∀ (n l : Nat) (x2 : Int32), x2 = nI l → l + n = c - 48 → (∀ i, i < l → O i ≠ 0) → RR 39 23 [some rX, some (.inl (nI (c - 48))), some (.inl x2)] [] σ (fun r σ' => (((48 ≤ c ∧ c ≤ 53) ∧ mayO O (c - 48)) ∧ r = some (.inl 1) ∧ cO σ' (tkO O (c - 48)) ∧ fr14 σ σ') ∨ (¬ ((48 ≤ c ∧ c ≤ 53) ∧ mayO O (c - 48)) ∧ r = some (.inl 0) ∧ fr14 σ σ')) := by
      intro n
      induction n with
      | zero =>
        intro l x2 hx hl hz
        have hl : l = c - 48 := hl
        refine G_if rfl (fun q4 => ?_) (fun q4 => ?_)
        · refine G_to [47] rfl ?_
          exact l2 (c - 48) 0 _ σ nI_0.symm (by omega) (fun i hi => by rw [if_neg (by omega)]; exact hO i hi) (fr14.rf _) ⟨q3, fun i hi => hz i (by omega)⟩
        · rw [hx, hl] at q4
          exact absurd (nI_le (Nat.le_refl _) (by omega)) q4
      | succ n ih =>
        intro l x2 hx hl hz
        refine G_if rfl (fun q4 => ?_) (fun q4 => ?_)
        · rw [hx] at q4
          exact absurd (ile q4 (by omega) (by omega)) (by omega)
        · have hOl := hO3 l
          refine G_ald rfl l hx (by omega) (by decide) ?_
          rw [hO l (by omega)]
          refine G_if rfl (fun q5 => ?_) (fun q5 => ?_)
          · refine G_to [23] rfl ?_
            refine ih (l + 1) _ (by rw [hx, nI_1]) (by omega) (fun i hi => ?_)
            by_cases e : i = l
            · rw [e]
              exact fun e2 => q5 (by rw [e2]; rfl)
            · exact hz i (by omega)
          · refine G_retZ rfl (Or.inl rfl) (Or.inr ⟨fun e => ?_, rfl, fr14.rf _⟩)
            exact e.2.2 l (by omega) (ieq (b := 0) (Classical.not_not.mp q5) (by omega) (by decide))
    refine G_to [23] rfl ?_
    exact l1 (c - 48) 0 _ nI_0.symm (by omega) (fun i hi => by omega)
  · exact G_retZ rfl (Or.inl rfl) (Or.inr ⟨fun e => e.2.1 (ieq (b := 3) (Classical.not_not.mp q3) (by omega) (by decide)), rfl, fr14.rf _⟩)
theorem ev_isClosed {O : Nat → Nat} (hO : cO σ O) (hO3 : ∀ l, O l ≤ 3) : Ev 40 [rX] σ (fun r σ' => σ' = σ ∧ ((clO O ∧ r = some (.inl 1)) ∨ (¬ clO O ∧ r = some (.inl 0)))) := by
  have l1 : ∀ (n h : Nat) (x1 : Int32), x1 = nI h → h + n = 6 → 1 ≤ h → (∀ i, 1 ≤ i → i < h → 0 < O i → O (i - 1) ≠ 0) → RR 40 2 [some rX, some (.inl x1)] [] σ (fun r σ' => σ' = σ ∧ ((clO O ∧ r = some (.inl 1)) ∨ (¬ clO O ∧ r = some (.inl 0)))) := by
    intro n
    induction n with
    | zero =>
      intro h x1 hx hh h1 hz
      refine G_if rfl (fun q => ?_) (fun q => ?_)
      · exact G_retZ rfl (Or.inr rfl) ⟨rfl, Or.inl ⟨fun i h1 h2 => hz i h1 (by omega), rfl⟩⟩
      · rw [hx] at q
        have := nlt (a := 5) q (by decide) (by omega)
        omega
    | succ n ih =>
      intro h x1 hx hh h1 hz
      have o1 := hO3 h
      have o2 := hO3 (h - 1)
      have nxt : (0 < O h → O (h - 1) ≠ 0) → RR 40 29 [some rX, some (.inl x1)] [] σ (fun r σ' => σ' = σ ∧ ((clO O ∧ r = some (.inl 1)) ∨ (¬ clO O ∧ r = some (.inl 0)))) := by
        intro hn
        refine G_to [2] rfl ?_
        refine ih (h + 1) _ (by rw [hx, nI_1]) (by omega) (by omega) (fun i i1 i2 => ?_)
        by_cases e : i = h
        · rw [e]
          exact hn
        · exact hz i i1 (by omega)
      refine G_if rfl (fun q => ?_) (fun q => ?_)
      · rw [hx] at q
        have := ilt (a := 5) q (by decide) (by omega)
        omega
      · refine G_ald rfl h hx (by omega) (by decide) ?_
        rw [hO h (by omega)]
        refine G_if rfl (fun q2 => ?_) (fun q2 => ?_)
        · have q2 := ile (b := 0) q2 (by omega) (by decide)
          exact nxt (fun e => by omega)
        · have q2 : 0 < O h := nle (b := 0) q2 (by omega) (by decide)
          refine G_ald rfl (h - 1) (by rw [hx, lm1 h1]) (by omega) (by decide) ?_
          rw [hO (h - 1) (by omega)]
          refine G_if rfl (fun q3 => ?_) (fun q3 => ?_)
          · exact nxt (fun _ e => q3 (by rw [e]; rfl))
          · have q3 := ieq (b := 0) (Classical.not_not.mp q3) (by omega) (by decide)
            exact G_retZ rfl (Or.inl rfl) ⟨rfl, Or.inr ⟨fun e => e h h1 (by omega) q2 q3, rfl⟩⟩
  refine G_to [2] rfl ?_
  exact l1 5 1 _ rfl rfl (by decide) (fun i h1 h2 => by omega)
end TX
