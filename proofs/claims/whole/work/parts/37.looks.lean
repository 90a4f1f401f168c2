/-! All looks: lane by lane, or key by key. -/
def sm : Nat → (Nat → Nat) → Nat
  | 0, _ => 0
  | n + 1, f => sm n f + f n
theorem sm_congr : ∀ (n : Nat) (f g : Nat → Nat), (∀ i, i < n → f i = g i) → sm n f = sm n g
  | 0, _, _, _ => rfl
  | n + 1, f, g, h => by rw [sm, sm, sm_congr n f g (fun i hi => h i (by omega)), h n (by omega)]
theorem sm_add : ∀ (n : Nat) (f g : Nat → Nat), sm n (fun i => f i + g i) = sm n f + sm n g
  | 0, _, _ => rfl
  | n + 1, f, g => by
    rw [sm, sm, sm, sm_add n f g]
    omega
theorem sm_zero : ∀ (n : Nat), sm n (fun _ => 0) = 0
  | 0 => rfl
  | n + 1 => by rw [sm, sm_zero n]
theorem sm_swap : ∀ (n m : Nat) (f : Nat → Nat → Nat), sm n (fun i => sm m (fun l => f l i)) = sm m (fun l => sm n (fun i => f l i))
  | 0, m, f => by simp only [sm]; rw [sm_zero]
  | n + 1, m, f => by
    simp only [sm]
    rw [sm_swap n m f, ← sm_add]
theorem cntF_snoc (T : Nat → Nat) (h : Nat) : ∀ (m i : Nat), cntF T h (m + 1) i = cntF T h m i + (if T (i + m) = h then 1 else 0)
  | 0, i => by simp [cntF]
  | m + 1, i => by
    rw [cntF, cntF_snoc T h m (i + 1), cntF, show i + 1 + m = i + (m + 1) by omega]
    omega
/-- how many of a height lie ahead of i, since the last higher one -/
def pas (T : Nat → Nat) (l i : Nat) : Nat := cntF T l (i - ahF T (l + 1) i) (ahF T (l + 1) i)
def cst (T : Nat → Nat) (n l i : Nat) : Nat := if l < T i then 0 else if T i = l then pas T l i + 1 else pas T l i + (if i + 1 < ahF T l n then 1 else 0)
theorem pas_succ (T : Nat → Nat) (l i : Nat) : pas T l (i + 1) = if l < T i then 0 else if T i = l then pas T l i + 1 else pas T l i := by
  unfold pas
  have hle := ahF_le T (l + 1) i
  rw [ahF]
  by_cases h : T i < l + 1
  · rw [if_pos h, show i + 1 - ahF T (l + 1) i = i - ahF T (l + 1) i + 1 by omega, cntF_snoc, show ahF T (l + 1) i + (i - ahF T (l + 1) i) = i by omega, if_neg (show ¬ l < T i by omega)]
    split <;> rfl
  · rw [if_neg h, if_pos (by omega)]
    simp [cntF]
theorem alI_eq (T : Nat → Nat) (n l : Nat) : ∀ (m i s : Nat), alI T l (ahF T l n) m i (pas T l i) s = s + (sm (i + m) (cst T n l) - sm i (cst T n l))
  | 0, i, s => by simp [alI]
  | m + 1, i, s => by
    have mono : ∀ (a d : Nat), sm a (cst T n l) ≤ sm (a + d) (cst T n l) := by
      intro a d
      induction d with
      | zero => exact Nat.le_refl _
      | succ d ih => rw [← Nat.add_assoc, sm]; omega
    have h1 := mono (i + 1) m
    have h2 : sm (i + 1) (cst T n l) = sm i (cst T n l) + cst T n l i := rfl
    have ih := alI_eq T n l m (i + 1)
    rw [pas_succ] at ih
    rw [show i + (m + 1) = i + 1 + m by omega, alI]
    by_cases h : l < T i
    · rw [if_pos h] at ih
      rw [if_pos h, ih]
      have : cst T n l i = 0 := by unfold cst; rw [if_pos h]
      omega
    · rw [if_neg h] at ih
      rw [if_neg h]
      by_cases h3 : T i = l
      · rw [if_pos h3] at ih
        rw [if_pos h3, ih]
        have : cst T n l i = pas T l i + 1 := by unfold cst; rw [if_neg h, if_pos h3]
        omega
      · rw [if_neg h3] at ih
        rw [if_neg h3, ih]
        have : cst T n l i = pas T l i + (if i + 1 < ahF T l n then 1 else 0) := by unfold cst; rw [if_neg h, if_neg h3]
        by_cases h4 : i + 1 < ahF T l n
        · rw [if_pos h4] at this ⊢
          omega
        · rw [if_neg h4] at this ⊢
          omega
theorem pas_0 (T : Nat → Nat) (l : Nat) : pas T l 0 = 0 := rfl
theorem alO_eq (T : Nat → Nat) (n : Nat) : ∀ (lv s : Nat), alO T n lv s = s + sm lv (fun l => sm n (cst T n l))
  | 0, s => rfl
  | lv + 1, s => by
    have h := alI_eq T n lv n 0 s
    rw [pas_0, Nat.zero_add] at h
    have e : sm (lv + 1) (fun l => sm n (cst T n l)) = sm lv (fun l => sm n (cst T n l)) + sm n (cst T n lv) := rfl
    have : sm 0 (cst T n lv) = 0 := rfl
    rw [alO, h, alO_eq T n lv]
    omega
theorem lkI_walk {M : AM} (hw : wfM M) {i0 l : Nat} (hi0 : i0 < M.1) : ∀ (d i c : Nat), i + d = i0 → (∀ x, i ≤ x → x < i0 → M.2.2.2 x ≤ l) → lkI M.2.1 M.2.2.2 (M.2.1 i0) l (M.1 - i) i (ahF M.2.2.2 l i) c = lkI M.2.1 M.2.2.2 (M.2.1 i0) l (M.1 - i0) i0 (ahF M.2.2.2 l i0) (c + cntF M.2.2.2 l d i)
  | 0, i, c, hd, _ => by
    have : i = i0 := by omega
    subst this
    rfl
  | d + 1, i, c, hd, hT => by
    have h1 := hT i (Nat.le_refl _) (by omega)
    have hlt := wf_lt hw (show i < i0 by omega) hi0
    have ih := lkI_walk hw (l := l) hi0 d (i + 1)
    rw [show M.1 - i = M.1 - (i + 1) + 1 by omega, lkI, cntF]
    rw [ahF] at ih
    by_cases h2 : M.2.2.2 i < l
    · rw [if_pos h2] at ih
      rw [if_pos h2, if_neg (by omega), Nat.zero_add]
      exact ih c (by omega) (fun x h3 h4 => hT x (by omega) h4)
    · rw [if_neg h2] at ih
      rw [if_neg h2, if_neg (by omega), if_neg (by omega), if_pos (by omega), ← Nat.add_assoc]
      exact ih (c + 1) (by omega) (fun x h3 h4 => hT x (by omega) h4)
theorem ahF_self (T : Nat → Nat) (l i : Nat) : ahF T l (ahF T (l + 1) i) = ahF T (l + 1) i := by
  rcases (ahF_sp T (l + 1) i).1 with h | h
  · rw [h]; rfl
  · generalize ahF T (l + 1) i = a at h
    cases a with
    | zero => rfl
    | succ a =>
      rw [ahF, if_neg (by simp at h; omega)]
theorem ahF_cut (T : Nat → Nat) (l : Nat) : ∀ (n i : Nat), i < n → (i + 1 < ahF T l n ↔ ∃ b, i < b ∧ b < n ∧ l ≤ T b)
  | 0, i, h => by omega
  | n + 1, i, h => by
    rw [ahF]
    by_cases hT : T n < l
    · rw [if_pos hT]
      by_cases hin : i = n
      · subst hin
        have := ahF_le T l i
        constructor
        · intro h; omega
        · rintro ⟨b, h1, h2, h3⟩; omega
      · rw [ahF_cut T l n i (by omega)]
        constructor
        · rintro ⟨b, h1, h2, h3⟩
          exact ⟨b, h1, by omega, h3⟩
        · rintro ⟨b, h1, h2, h3⟩
          refine ⟨b, h1, ?_, h3⟩
          rcases Nat.lt_or_ge b n with h4 | h4
          · exact h4
          · have : b = n := by omega
            subst this
            omega
    · rw [if_neg hT]
      constructor
      · intro h1
        exact ⟨n, by omega, by omega, by omega⟩
      · rintro ⟨b, h1, h2, h3⟩
        omega
theorem lkO_eq {M : AM} (hw : wfM M) {i0 : Nat} (hi0 : i0 < M.1) : ∀ (lv c : Nat), M.2.2.2 i0 < lv → (lkO M.2.1 M.2.2.2 M.1 (M.2.1 i0) lv (ahF M.2.2.2 lv i0) c) = (true, c + sm lv (fun l => cst M.2.2.2 M.1 l i0))
  | 0, c, h => by omega
  | lv + 1, c, h => by
    have ha := ahF_le M.2.2.2 (lv + 1) i0
    have hsp := (ahF_sp M.2.2.2 (lv + 1) i0).2
    have hwk := lkI_walk hw hi0 (l := lv) (i0 - ahF M.2.2.2 (lv + 1) i0) (ahF M.2.2.2 (lv + 1) i0) c (by omega) (fun x h1 h2 => by have := hsp x h1 h2; omega)
    rw [ahF_self] at hwk
    change _ = lkI _ _ _ _ _ _ _ (c + pas M.2.2.2 lv i0) at hwk
    rw [lkO, hwk, sm]
    rw [show M.1 - i0 = M.1 - (i0 + 1) + 1 by omega, lkI]
    by_cases hT : M.2.2.2 i0 < lv
    · have hsk := lkI_skip M.2.1 M.2.2.2 (M.2.1 i0) lv (M.1 - (i0 + 1)) (i0 + 1) (ahF M.2.2.2 lv i0) (c + pas M.2.2.2 lv i0)
      rw [show i0 + 1 + (M.1 - (i0 + 1)) = M.1 by omega] at hsk
      change _ = (if bhF M.1 M.2.2.2 lv (i0 + 1) = M.1 then _ else if M.2.1 (bhF M.1 M.2.2.2 lv (i0 + 1)) = _ then _ else if _ < M.2.1 (bhF M.1 M.2.2.2 lv (i0 + 1)) then _ else _) at hsk
      rw [if_pos hT, hsk]
      have hb := bhF_le M.2.2.2 lv (show i0 + 1 ≤ M.1 by omega)
      obtain ⟨b1, b2⟩ := bhF_sp M.2.2.2 lv (show i0 + 1 ≤ M.1 by omega)
      have hcut := ahF_cut M.2.2.2 lv M.1 i0 hi0
      have hc : cst M.2.2.2 M.1 lv i0 = pas M.2.2.2 lv i0 + (if i0 + 1 < ahF M.2.2.2 lv M.1 then 1 else 0) := by
        unfold cst
        rw [if_neg (by omega), if_neg (by omega)]
      rw [hc]
      by_cases hbn : bhF M.1 M.2.2.2 lv (i0 + 1) = M.1
      · rw [if_pos hbn, if_neg (fun q => by
          obtain ⟨b, q1, q2, q3⟩ := hcut.mp q
          have := b2 b (by omega) (by omega)
          omega)]
        simp only
        rw [lkO_eq hw hi0 lv _ hT]
        congr 1
        omega
      · have hbl : bhF M.1 M.2.2.2 lv (i0 + 1) < M.1 := by omega
        have hkl := wf_lt hw (show i0 < bhF M.1 M.2.2.2 lv (i0 + 1) by omega) hbl
        rw [if_neg hbn, if_neg (by omega), if_pos hkl, if_pos (hcut.mpr ⟨_, by omega, hbl, by
          rcases b1 with q | q
          · omega
          · exact q.2⟩)]
        simp only
        rw [lkO_eq hw hi0 lv _ hT]
        congr 1
        omega
    · have he : M.2.2.2 i0 = lv := by omega
      rw [if_neg hT, if_pos rfl]
      simp only
      have hc : cst M.2.2.2 M.1 lv i0 = pas M.2.2.2 lv i0 + 1 := by
        unfold cst
        rw [if_neg (by omega), if_pos he]
      rw [hc]
      have hz : sm lv (fun l => cst M.2.2.2 M.1 l i0) = 0 := by
        rw [← sm_zero lv]
        refine sm_congr lv _ _ (fun l hl => ?_)
        unfold cst
        rw [if_pos (by omega)]
      rw [hz]
      congr 1
      omega
theorem ahF_top {T : Nat → Nat} {l : Nat} : ∀ (i : Nat), (∀ x, x < i → T x < l) → ahF T l i = 0
  | 0, _ => rfl
  | i + 1, h => by
    rw [ahF, if_pos (h i (by omega))]
    exact ahF_top i (fun x hx => h x (by omega))
theorem looksF_at {M : AM} (hw : wfM M) {i0 : Nat} (hi0 : i0 < M.1) : looksF M (M.2.1 i0) = (true, sm (topF M.2.2.2 M.1) (fun l => cst M.2.2.2 M.1 l i0)) := by
  have h := lkO_eq hw hi0 (topF M.2.2.2 M.1) 0 (by have := topF_ge M.2.2.2 M.1 i0 hi0; omega)
  rw [ahF_top i0 (fun x hx => by have := topF_ge M.2.2.2 M.1 x (by omega); omega), Nat.zero_add] at h
  exact h
theorem slF_eq {M : AM} (hw : wfM M) : ∀ (m i s : Nat), i + m ≤ M.1 → slF M m i s + sm i (fun x => (looksF M (M.2.1 x)).2) = s + sm (i + m) (fun x => (looksF M (M.2.1 x)).2)
  | 0, i, s, _ => rfl
  | m + 1, i, s, h => by
    have ih := slF_eq hw m (i + 1) (s + (looksF M (M.2.1 i)).2) (by omega)
    have h2 : sm (i + 1) (fun x => (looksF M (M.2.1 x)).2) = sm i (fun x => (looksF M (M.2.1 x)).2) + (looksF M (M.2.1 i)).2 := rfl
    rw [show i + (m + 1) = i + 1 + m by omega, slF]
    omega
/-- all looks are one number, however they are counted -/
theorem all_looks {M : AM} (hw : wfM M) : slF M M.1 0 0 = alF M.2.2.2 M.1 := by
  have h1 := slF_eq hw M.1 0 0 (by omega)
  have h2 := alO_eq M.2.2.2 M.1 (topF M.2.2.2 M.1) 0
  have h3 : sm M.1 (fun x => (looksF M (M.2.1 x)).2) = sm M.1 (fun x => sm (topF M.2.2.2 M.1) (fun l => cst M.2.2.2 M.1 l x)) := sm_congr _ _ _ (fun x hx => by rw [looksF_at hw hx])
  rw [sm_swap] at h3
  have h4 : sm 0 (fun x => (looksF M (M.2.1 x)).2) = 0 := rfl
  unfold alF
  simp only [Nat.zero_add] at h1 h2
  rw [h4, Nat.add_zero] at h1
  rw [h2]
  exact h1.trans h3
