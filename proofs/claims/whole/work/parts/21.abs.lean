/-! A map, told by its number of items and what lies at each place: keys, values, heights. -/
abbrev AM : Type := Nat × ((Nat → Nat) × ((Nat → Nat) × (Nat → Nat)))
/-- the first place from i on, within m, where p fails -/
def scn (p : Nat → Bool) : Nat → Nat → Nat
  | 0, i => i
  | m + 1, i => match p i with
    | true => scn p m (i + 1)
    | false => i
theorem scn_t {p : Nat → Bool} {m i : Nat} (h : p i = true) : scn p (m + 1) i = scn p m (i + 1) := by simp [scn, h]
theorem scn_f {p : Nat → Bool} {m i : Nat} (h : p i = false) : scn p (m + 1) i = i := by simp [scn, h]
theorem scn_spec (p : Nat → Bool) : ∀ (m i : Nat), i ≤ scn p m i ∧ scn p m i ≤ i + m ∧ (∀ k, i ≤ k → k < scn p m i → p k = true) ∧ (scn p m i < i + m → p (scn p m i) = false)
  | 0, i => ⟨Nat.le_refl _, Nat.le_refl _, fun k h1 h2 => by simp [scn] at h2; omega, fun h => by simp [scn] at h⟩
  | m + 1, i => by
    cases h : p i with
    | true =>
      rw [scn_t h]
      obtain ⟨h1, h2, h3, h4⟩ := scn_spec p m (i + 1)
      refine ⟨by omega, by omega, fun k hk1 hk2 => ?_, fun hh => h4 (by omega)⟩
      by_cases hki : k = i
      · rw [hki]; exact h
      · exact h3 k (by omega) hk2
    | false =>
      rw [scn_f h]
      exact ⟨Nat.le_refl _, by omega, fun k h1 h2 => by omega, fun _ => h⟩
/-- the number of items whose keys are less, as keys grow -/
def les (M : AM) (key : Nat) : Nat := scn (fun i => decide (M.2.1 i < key)) M.1 0
def has (M : AM) (key : Nat) : Prop := les M key < M.1 ∧ M.2.1 (les M key) = key
def topF (T : Nat → Nat) : Nat → Nat
  | 0 => 0
  | n + 1 => max (topF T n) (T n + 1)
/-- one more than the last place ahead of p that is so high; 0 if there is none -/
def ahF (T : Nat → Nat) (l : Nat) : Nat → Nat
  | 0 => 0
  | p + 1 => if T p < l then ahF T l p else p + 1
/-- the first place from p on that is so high; n if there is none -/
def bhF (n : Nat) (T : Nat → Nat) (l p : Nat) : Nat := scn (fun i => decide (T i < l)) (n - p) p
/-- how many of m places from i on have a height -/
def cntF (T : Nat → Nat) (h : Nat) : Nat → Nat → Nat
  | 0, _ => 0
  | m + 1, i => (if T i = h then 1 else 0) + cntF T h m (i + 1)
/-- the so manyth of them (from 1 on) -/
def nthF (T : Nat → Nat) (h : Nat) : Nat → Nat → Nat → Nat
  | 0, i, _ => i
  | m + 1, i, k => if T i = h then (if k = 1 then i else nthF T h m (i + 1) (k - 1)) else nthF T h m (i + 1) k
def upN (f : Nat → Nat) (k v : Nat) : Nat → Nat := fun j => if j = k then v else f j
def insF (f : Nat → Nat) (at_ v : Nat) : Nat → Nat := fun j => if j < at_ then f j else if j = at_ then v else f (j - 1)
def delF (f : Nat → Nat) (at_ : Nat) : Nat → Nat := fun j => if j < at_ then f j else f (j + 1)
/-- keys grow, all is small -/
def wfM (M : AM) : Prop := M.1 ≤ 40 ∧ (∀ i, i < M.1 → M.2.1 i < 100 ∧ M.2.2.1 i < 1000000 ∧ M.2.2.2 i < 64) ∧ ∀ i, i + 1 < M.1 → M.2.1 i < M.2.1 (i + 1)
/-- heights alone are small -/
def wfT (M : AM) : Prop := M.1 ≤ 40 ∧ ∀ i, i < M.1 → M.2.2.2 i < 64
theorem wfM.t {M : AM} (h : wfM M) : wfT M := ⟨h.1, fun i hi => (h.2.1 i hi).2.2⟩
/-- the class's Items number j hold a map -/
def isI (σ : Hp) (j : Nat) (M : AM) : Prop := σ.1 2 j 3 = nI M.1 ∧ ∀ i, i < M.1 → σ.1 7 j i = nI (M.2.1 i) ∧ σ.1 8 j i = nI (M.2.2.1 i) ∧ σ.1 9 j i = nI (M.2.2.2 i)
abbrev rI (j : Nat) : PV := .inr (.inr (2, j))
theorem big40 {n : Nat} (h : n ≤ 40) : n < 2147483648 := by omega
theorem nle {a b : Nat} (h : ¬ nI a ≤ nI b) (ha : a < 2147483648) (hb : b < 2147483648) : b < a := by
  rcases Nat.lt_or_ge b a with h1 | h1
  · exact h1
  · exact absurd ((nI_leI ha hb).mpr h1) h
theorem nlt {a b : Nat} (h : ¬ nI a < nI b) (ha : a < 2147483648) (hb : b < 2147483648) : b ≤ a := by
  rcases Nat.lt_or_ge a b with h1 | h1
  · exact absurd ((nI_ltI ha hb).mpr h1) h
  · exact h1
theorem ile {a b : Nat} (h : nI a ≤ nI b) (ha : a < 2147483648) (hb : b < 2147483648) : a ≤ b := (nI_leI ha hb).mp h
theorem ilt {a b : Nat} (h : nI a < nI b) (ha : a < 2147483648) (hb : b < 2147483648) : a < b := (nI_ltI ha hb).mp h
theorem ieq {a b : Nat} (h : nI a = nI b) (ha : a < 2147483648) (hb : b < 2147483648) : a = b := (nI_eq ha hb).mp h
theorem imax {a b : Nat} (ha : a < 2147483648) (hb : b < 2147483648) : (if nI a < nI b then nI b else nI a) = nI (max a b) := by
  by_cases h : nI a < nI b
  · rw [if_pos h, Nat.max_eq_right (Nat.le_of_lt (ilt h ha hb))]
  · rw [if_neg h, Nat.max_eq_left (nlt h ha hb)]
theorem imin {a b : Nat} (ha : a < 2147483648) (hb : b < 2147483648) : (if nI b < nI a then nI b else nI a) = nI (min a b) := by
  by_cases h : nI b < nI a
  · rw [if_pos h, Nat.min_eq_right (Nat.le_of_lt (ilt h hb ha))]
  · rw [if_neg h, Nat.min_eq_left (nlt h hb ha)]
/-- a place that may be one ahead of the first: nI q - 1 -/
theorem im1_neg : nI 0 - 1 = -1 := by decide
theorem im1_lt {q : Nat} (hq : q < 2147483648) : nI q - 1 < 0 ↔ q = 0 := by
  cases q with
  | zero => simp [im1_neg]
  | succ q =>
    rw [nI_pred]
    constructor
    · intro h
      exact absurd h (nI_pos (by omega))
    · intro h
      cases h
theorem im1_add (q : Nat) : nI q - 1 + 1 = nI q := by
  rw [Int32.sub_add_cancel]
theorem im1_dec (q : Nat) : nI (q + 1) - 1 + (-1) = nI q - 1 := by
  rw [nI_pred, Int32.sub_eq_add_neg]
theorem topF_le {T : Nat → Nat} {b : Nat} : ∀ (n : Nat), (∀ i, i < n → T i < b) → topF T n ≤ b
  | 0, _ => Nat.zero_le _
  | n + 1, h => by
    have h1 := topF_le n (fun i hi => h i (by omega))
    have h2 := h n (by omega)
    simp only [topF]
    omega
theorem ahF_le (T : Nat → Nat) (l : Nat) : ∀ p, ahF T l p ≤ p
  | 0 => Nat.le_refl _
  | p + 1 => by
    have := ahF_le T l p
    unfold ahF
    split <;> omega
theorem bhF_le {n : Nat} (T : Nat → Nat) (l : Nat) {p : Nat} (h : p ≤ n) : p ≤ bhF n T l p ∧ bhF n T l p ≤ n := by
  obtain ⟨h1, h2, -, -⟩ := scn_spec (fun i => decide (T i < l)) (n - p) p
  unfold bhF
  omega
theorem cntF_le (T : Nat → Nat) (h : Nat) : ∀ (m i : Nat), cntF T h m i ≤ m
  | 0, _ => Nat.le_refl _
  | m + 1, i => by
    have := cntF_le T h m (i + 1)
    unfold cntF
    split <;> omega
theorem nthF_in (T : Nat → Nat) (h : Nat) : ∀ (m i k : Nat), 1 ≤ k → k ≤ cntF T h m i → i ≤ nthF T h m i k ∧ nthF T h m i k < i + m ∧ T (nthF T h m i k) = h
  | 0, i, k, h1, h2 => by simp [cntF] at h2; omega
  | m + 1, i, k, h1, h2 => by
    unfold cntF at h2
    unfold nthF
    by_cases hT : T i = h
    · rw [if_pos hT] at h2 ⊢
      by_cases hk : k = 1
      · rw [if_pos hk]
        exact ⟨Nat.le_refl _, by omega, hT⟩
      · rw [if_neg hk]
        have := nthF_in T h m (i + 1) (k - 1) (by omega) (by omega)
        omega
    · rw [if_neg hT] at h2 ⊢
      have := nthF_in T h m (i + 1) k h1 (by omega)
      omega
theorem les_le (M : AM) (key : Nat) : les M key ≤ M.1 := by
  have := (scn_spec (fun i => decide (M.2.1 i < key)) M.1 0).2.1
  unfold les
  omega
theorem wf_mono {M : AM} (h : wfM M) : ∀ (d i : Nat), i + d < M.1 → M.2.1 i + d ≤ M.2.1 (i + d)
  | 0, i, _ => by simp
  | d + 1, i, hd => by
    have h1 := wf_mono h d i (by omega)
    have h2 := h.2.2 (i + d) (by omega)
    have h3 : i + (d + 1) = i + d + 1 := rfl
    rw [h3]
    omega
theorem wf_lt {M : AM} (h : wfM M) {i k : Nat} (hik : i < k) (hk : k < M.1) : M.2.1 i < M.2.1 k := by
  have := wf_mono h (k - i) i (by omega)
  rw [show i + (k - i) = k by omega] at this
  omega
/-- where a key stands, or would -/
theorem les_spec {M : AM} (hw : wfM M) (key : Nat) : (∀ i, i < les M key → M.2.1 i < key) ∧ ∀ i, les M key ≤ i → i < M.1 → key ≤ M.2.1 i := by
  obtain ⟨h1, h2, h3, h4⟩ := scn_spec (fun i => decide (M.2.1 i < key)) M.1 0
  refine ⟨fun i hi => by simpa using h3 i (Nat.zero_le _) hi, fun i hi hin => ?_⟩
  have h5 : key ≤ M.2.1 (les M key) := by
    have := h4 (by unfold les at hi; omega)
    unfold les
    simpa using this
  rcases Nat.lt_or_ge (les M key) i with h6 | h6
  · have := wf_lt hw h6 hin
    omega
  · have : i = les M key := by omega
    rw [this]
    exact h5
theorem les_uniq {M : AM} (hw : wfM M) {key a : Nat} (h0 : a ≤ M.1) (h1 : ∀ i, i < a → M.2.1 i < key) (h2 : ∀ i, a ≤ i → i < M.1 → key ≤ M.2.1 i) : a = les M key := by
  obtain ⟨h3, h4⟩ := les_spec hw key
  have h5 := les_le M key
  rcases Nat.lt_trichotomy a (les M key) with h | h | h
  · have h6 := h3 a h
    have h7 := h2 a (Nat.le_refl _) (by omega)
    omega
  · exact h
  · have h6 := h1 _ h
    have h7 := h4 _ (Nat.le_refl _) (by omega)
    omega
theorem les_at {M : AM} (hw : wfM M) {i : Nat} (hi : i < M.1) : les M (M.2.1 i) = i := by
  refine (les_uniq hw (by omega) (fun k hk => wf_lt hw hk hi) (fun k hk hkn => ?_)).symm
  rcases Nat.lt_or_ge i k with h | h
  · exact Nat.le_of_lt (wf_lt hw h hkn)
  · have : k = i := by omega
    rw [this]
    exact Nat.le_refl _
theorem has_iff {M : AM} (hw : wfM M) {key : Nat} : has M key ↔ ∃ i, i < M.1 ∧ M.2.1 i = key := by
  constructor
  · intro h
    exact ⟨_, h⟩
  · rintro ⟨i, hi, rfl⟩
    unfold has
    rw [les_at hw hi]
    exact ⟨hi, rfl⟩
