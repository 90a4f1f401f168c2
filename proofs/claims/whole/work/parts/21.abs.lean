/-! A map, told by its number of items and what lies at each place: keys, values, heights. -/
abbrev AM : Type := Nat × ((Nat → Nat) × ((Nat → Nat) × (Nat → Nat)))
/-- the first place from i on, within m, where p fails -/
def scn (p : Nat → Bool) : Nat → Nat → Nat
  | 0, i => i
  | m + 1, i => match p i with
    | true => scn p m (i + 1)
    | false => i
theorem scn_t {p : Nat → Bool} {m i : Nat} (h : p i = true) : scn p (m + 1) i = scn p m (i + 1) := by simp [scn, h]
theorem scn_f {p : Nat → Bool} {m i : Nat} (h : p i = false) : scn p (m + 1) i = i := by simp [scn, h]
theorem scn_spec (p : Nat → Bool) : ∀ (m i : Nat), i ≤ scn p m i ∧ scn p m i ≤ i + m ∧ (∀ k, i ≤ k → k < scn p m i → p k = true) ∧ (scn p m i < i + m → p (scn p m i) = false)
  | 0, i => ⟨Nat.le_refl _, Nat.le_refl _, fun k h1 h2 => by simp [scn] at h2; omega, fun h => by simp [scn] at h⟩
  | m + 1, i => by
    cases h : p i with
    | true =>
      rw [scn_t h]
      obtain ⟨h1, h2, h3, h4⟩ := scn_spec p m (i + 1)
      refine ⟨by omega, by omega, fun k hk1 hk2 => ?_, fun hh => h4 (by omega)⟩
      by_cases hki : k = i
      · rw [hki]; exact h
      · exact h3 k (by omega) hk2
    | false =>
      rw [scn_f h]
      exact ⟨Nat.le_refl _, by omega, fun k h1 h2 => by omega, fun _ => h⟩
/-- the number of items whose keys are less, as keys grow -/
def les (M : AM) (key : Nat) : Nat := scn (fun i => decide (M.2.1 i < key)) M.1 0
def has (M : AM) (key : Nat) : Prop := les M key < M.1 ∧ M.2.1 (les M key) = key
def topF (T : Nat → Nat) : Nat → Nat
  | 0 => 0
  | n + 1 => max (topF T n) (T n + 1)
/-- one more than the last place ahead of p that is so high; 0 if there is none -/
def ahF (T : Nat → Nat) (l : Nat) : Nat → Nat
  | 0 => 0
  | p + 1 => if T p < l then ahF T l p else p + 1
/-- the first place from p on that is so high; n if there is none -/
def bhF (n : Nat) (T : Nat → Nat) (l p : Nat) : Nat := scn (fun i => decide (T i < l)) (n - p) p
/-- how many of m places from i on have a height -/
def cntF (T : Nat → Nat) (h : Nat) : Nat → Nat → Nat
  | 0, _ => 0
  | m + 1, i => (if T i = h then 1 else 0) + cntF T h m (i + 1)
/-- the so manyth of them (from 1 on) -/
def nthF (T : Nat → Nat) (h : Nat) : Nat → Nat → Nat → Nat
  | 0, i, _ => i
  | m + 1, i, k => if T i = h then (if k = 1 then i else nthF T h m (i + 1) (k - 1)) else nthF T h m (i + 1) k
def upN (f : Nat → Nat) (k v : Nat) : Nat → Nat := fun j => if j = k then v else f j
def insF (f : Nat → Nat) (at_ v : Nat) : Nat → Nat := fun j => if j < at_ then f j else if j = at_ then v else f (j - 1)
def delF (f : Nat → Nat) (at_ : Nat) : Nat → Nat := fun j => if j < at_ then f j else f (j + 1)
/-- keys grow, all is small -/
def wfM (M : AM) : Prop := M.1 ≤ 40 ∧ (∀ i, i < M.1 → M.2.1 i < 100 ∧ M.2.2.1 i < 1000000 ∧ M.2.2.2 i < 64) ∧ ∀ i, i + 1 < M.1 → M.2.1 i < M.2.1 (i + 1)
/-- the class's Items number j hold a map -/
def isI (σ : Hp) (j : Nat) (M : AM) : Prop := σ.1 2 j 3 = nI M.1 ∧ ∀ i, i < M.1 → σ.1 7 j i = nI (M.2.1 i) ∧ σ.1 8 j i = nI (M.2.2.1 i) ∧ σ.1 9 j i = nI (M.2.2.2 i)
abbrev rI (j : Nat) : PV := .inr (.inr (2, j))
theorem big40 {n : Nat} (h : n ≤ 40) : n < 2147483648 := by omega
