/-! A step of the small machine is a step of the real one. -/
theorem imp_chk {P Q : Prop} (h : P ∧ Q) : P := h.1
theorem cls_ok (a : Nat) (h : a < 7) : ∃ (N : Nat) (ty : Nat → FieldType), vwCl[a]? = some (oN a, tN a, N) ∧ (∀ w ∈ u_ws (oN a) (tN a) N, w ∈ WL) ∧ (∀ k, k < N → parseFieldDescriptor (tN a k).2.2.1 = some (ty k)) ∧ (∀ x, x < N → ∀ y, y < N → x ≠ y → (tN a x).2.1 ≠ (tN a y).2.1) ∧ N = (ftab.getD a []).length ∧ (∀ k, k < N → (fdOf a k = some none → (isZ a k = true → ty k = .boolean) ∧ (isZ a k = false → ty k = .int)) ∧ (fdOf a k = some (some none) → ty k = .long)) := by
  have up : ∀ {ws : List Cond}, (∀ w ∈ ws, w ∈ lw_tbl ∧ goodWord w = true) → ∀ w ∈ ws, w ∈ WL := fun h w hw => List.mem_filter.mpr (h w hw)
  match a, h with
  | 0, _ => exact ⟨3, tyX0, rfl, up lay_0, tyX0_ok, nmX0, rfl, fun k hk => by
    match k, hk with
    | 0, _ | 1, _ | 2, _ =>
      refine ⟨fun q => ⟨fun z => ?_, fun z => ?_⟩, fun q => ?_⟩ <;> first | rfl | (simp [fdOf, ftab, rk, fR, fI, fL] at q; done) | (simp [isZ] at z; done)⟩
  | 1, _ => exact ⟨2, tyX1, rfl, up lay_1, tyX1_ok, nmX1, rfl, fun k hk => by
    match k, hk with
    | 0, _ | 1, _ =>
      refine ⟨fun q => ⟨fun z => ?_, fun z => ?_⟩, fun q => ?_⟩ <;> first | rfl | (simp [fdOf, ftab, rk, fR, fI, fL] at q; done) | (simp [isZ] at z; done)⟩
  | 2, _ => exact ⟨4, tyX2, rfl, up lay_2, tyX2_ok, nmX2, rfl, fun k hk => by
    match k, hk with
    | 0, _ | 1, _ | 2, _ | 3, _ =>
      refine ⟨fun q => ⟨fun z => ?_, fun z => ?_⟩, fun q => ?_⟩ <;> first | rfl | (simp [fdOf, ftab, rk, fR, fI, fL] at q; done) | (simp [isZ] at z; done)⟩
  | 3, _ => exact ⟨4, tyX3, rfl, up lay_3, tyX3_ok, nmX3, rfl, fun k hk => by
    match k, hk with
    | 0, _ | 1, _ | 2, _ | 3, _ =>
      refine ⟨fun q => ⟨fun z => ?_, fun z => ?_⟩, fun q => ?_⟩ <;> first | rfl | (simp [fdOf, ftab, rk, fR, fI, fL] at q; done) | (simp [isZ] at z; done)⟩
  | 4, _ => exact ⟨3, tyX4, rfl, up lay_4, tyX4_ok, nmX4, rfl, fun k hk => by
    match k, hk with
    | 0, _ | 1, _ | 2, _ =>
      refine ⟨fun q => ⟨fun z => ?_, fun z => ?_⟩, fun q => ?_⟩ <;> first | rfl | (simp [fdOf, ftab, rk, fR, fI, fL] at q; done) | (simp [isZ] at z; done)⟩
  | 5, _ => exact ⟨8, tyX5, rfl, up lay_5, tyX5_ok, nmX5, rfl, fun k hk => by
    match k, hk with
    | 0, _ | 1, _ | 2, _ | 3, _ | 4, _ | 5, _ | 6, _ | 7, _ =>
      refine ⟨fun q => ⟨fun z => ?_, fun z => ?_⟩, fun q => ?_⟩ <;> first | rfl | (simp [fdOf, ftab, rk, fR, fI, fL] at q; done) | (simp [isZ] at z; done)⟩
  | 6, _ => exact ⟨31, tyX6, rfl, up lay_6, tyX6_ok, nmX6, rfl, fun k hk => by
    match k, hk with
    | k + 31, h => exact absurd h (by omega)
    | 0, _ | 1, _ | 2, _ | 3, _ | 4, _ | 5, _ | 6, _ | 7, _ | 8, _ | 9, _ | 10, _ | 11, _ | 12, _ | 13, _ | 14, _ | 15, _ | 16, _ | 17, _ | 18, _ | 19, _ | 20, _ | 21, _ | 22, _ | 23, _ | 24, _ | 25, _ | 26, _ | 27, _ | 28, _ | 29, _ | 30, _ =>
      refine ⟨fun q => ⟨fun z => ?_, fun z => ?_⟩, fun q => ?_⟩ <;> first | rfl | (simp [fdOf, ftab, rk, fR, fI, fL] at q; done) | (simp [isZ] at z; done)⟩
theorem fdOf_lt {a b : Nat} {fd : FD} (h : fdOf a b = some fd) : a < 7 ∧ b < (ftab.getD a []).length := by
  unfold fdOf at h
  refine ⟨?_, (List.getElem?_eq_some_iff.mp h).1⟩
  rcases Nat.lt_or_ge a 7 with h1 | h1
  · exact h1
  · have h2 : ftab.getD a [] = [] := by
      rw [List.getD_eq_getElem?_getD, show ftab[a]? = none from List.getElem?_eq_none (by simpa [ftab] using h1)]
      rfl
    rw [h2] at h
    simp at h
theorem arr_obj {σ : Hp} {a : Nat} (h : a < 7) : arr σ a = none := by
  match a, h with
  | 0, _ | 1, _ | 2, _ | 3, _ | 4, _ | 5, _ | 6, _ => rfl
theorem arr_low {σ : Hp} {a t n : Nat} (h : arr σ a = some (t, n)) (ht : t ≠ 3) : 7 ≤ a ∧ a < 31 ∧ atab[a - 7]? = some (t, n) := by
  have key : a = 31 ∨ a = 32 ∨ a < 7 ∨ (7 ≤ a ∧ a ≠ 31 ∧ a ≠ 32) := by omega
  rcases key with rfl | rfl | h7 | ⟨h1, h2, h3⟩
  · simp only [arr, Option.some.injEq, Prod.mk.injEq] at h
    exact absurd h.1.symm ht
  · simp only [arr, Option.some.injEq, Prod.mk.injEq] at h
    exact absurd h.1.symm ht
  · rw [arr_obj h7] at h
    cases h
  · have h4 : arr σ a = atab[a - 7]? := by
      unfold arr
      split <;> first | rfl | omega
    rw [h4] at h
    have h5 := (List.getElem?_eq_some_iff.mp h).1
    simp only [atab, List.length_cons, List.length_nil] at h5
    exact ⟨h1, by omega, h⟩
theorem atab_no3 : ∀ k, k < 24 → ¬ (atab[k]?.map Prod.fst) = some 3 := by decide +kernel
theorem arr_3 {σ : Hp} {r : Nat × Nat} {n : Nat} (h : arr σ r.1 = some (3, n)) (ho : okR r) : (r = (31, 0) ∧ n = 5) ∨ (r = (32, 0) ∧ n = σ.2.2) := by
  rcases ho with h1 | h1 | h1
  · obtain ⟨k, i⟩ := r
    have hk := (allR_iff.mp h1).1
    exfalso
    have key : k < 7 ∨ 7 ≤ k := by omega
    rcases key with h7 | h7
    · rw [arr_obj h7] at h
      cases h
    · have h4 : arr σ k = atab[k - 7]? := by
        unfold arr
        split <;> first | rfl | omega
      have h5 : arr σ k = some (3, n) := h
      rw [h4] at h5
      exact atab_no3 (k - 7) (by omega) (by rw [h5]; rfl)
  · subst h1
    left
    simp only [arr, Option.some.injEq, Prod.mk.injEq] at h
    exact ⟨rfl, h.2.symm⟩
  · subst h1
    right
    simp only [arr, Option.some.injEq, Prod.mk.injEq] at h
    exact ⟨rfl, h.2.symm⟩
theorem okR_low {r : Nat × Nat} (h : r.1 < 31) (ho : okR r) : r ∈ allR := by
  rcases ho with h1 | h1 | h1
  · exact h1
  · rw [h1] at h
    exact absurd h (by decide)
  · rw [h1] at h
    exact absurd h (by decide)
theorem arr_mut {σ : Hp} {k i t n : Nat} (h : arr σ k = some (t, n)) (ht : t ≠ 3) (ho : okR (k, i)) : (k, i) ∈ allR := okR_low (arr_low h ht).2.1 ho
theorem refs_in : ((List.range 7).all fun a => (List.range (ftab.getD a []).length).all fun b => (List.range (cnts.getD a 0)).all fun i => match fdOf a b with
    | some (some (some g)) => decide (g i ∈ allR)
    | _ => true) = true := by decide +kernel
theorem fd_ref {a b i : Nat} {g : Nat → Nat × Nat} (h : fdOf a b = some (some (some g))) (hi : (a, i) ∈ allR) : g i ∈ allR := by
  obtain ⟨h1, h2⟩ := fdOf_lt h
  have h3 := List.all_eq_true.mp refs_in a (List.mem_range.mpr h1)
  have h4 := List.all_eq_true.mp h3 b (List.mem_range.mpr h2)
  have h5 := List.all_eq_true.mp h4 i (List.mem_range.mpr (allR_iff.mp hi).2)
  rw [h] at h5
  exact of_decide_eq_true h5
theorem qarr_in {σ : Hp} {k n i : Nat} (h : arr σ k = some (2, n)) (hi : i < n) : (1, qb k + i) ∈ allR := by
  obtain ⟨h1, h2, h3⟩ := arr_low h (by decide)
  have key : ((List.range 24).all fun k' => match atab[k']? with
    | some (2, n') => decide (qb (k' + 7) + n' ≤ 18)
    | _ => true) = true := by decide +kernel
  have h4 := List.all_eq_true.mp key (k - 7) (List.mem_range.mpr (by omega))
  rw [h3] at h4
  have h5 := of_decide_eq_true h4
  rw [show k - 7 + 7 = k by omega] at h5
  exact allR_iff.mpr ⟨by decide, by show qb k + i < 18; omega⟩
theorem longs_in : ((List.range 7).all fun a => (List.range (ftab.getD a []).length).all fun b => match fdOf a b with
    | some (some none) => decide ((a = 5 ∧ b = 7) ∨ (a = 6 ∧ b = 18))
    | _ => true) = true := by decide +kernel
theorem fd_long {a b : Nat} (h : fdOf a b = some (some none)) : (a = 5 ∧ b = 7) ∨ (a = 6 ∧ b = 18) := by
  obtain ⟨h1, h2⟩ := fdOf_lt h
  have h3 := List.all_eq_true.mp longs_in a (List.mem_range.mpr h1)
  have h4 := List.all_eq_true.mp h3 b (List.mem_range.mpr h2)
  rw [h] at h4
  exact of_decide_eq_true h4
