/-! The small machine's world on the heap. -/
def WL : List Cond := lw_tbl.filter goodWord
theorem WL_of {w : Cond} {i : Nat} (h : lw_tbl[i]? = some w) (g : goodWord w = true) : w ∈ WL := List.mem_filter.mpr ⟨List.mem_of_getElem? h, g⟩
theorem WL_good {big : List Cond} (hb : ∀ w ∈ WL, w ∈ big) : GoodIn big WL := fun w h => ⟨hb w h, good_of_word (List.mem_filter.mp h).2⟩
theorem nb {a b : Nat} (h : nbeq a b = true) : a = b := Nat.eq_of_beq_eq_true h
theorem w_fld {o i a b : Nat} (h : fldT.any (fun q => nbeq q.1 o && nbeq q.2.1 i && nbeq q.2.2.1 a && nbeq q.2.2.2.1 b) = true) : Cond.fieldLink (oN o) i (tN a b).1 (tN a b).2.1 (tN a b).2.2.1 ∈ WL := by
  obtain ⟨q, hq, h1⟩ := List.any_eq_true.mp h
  have h2 := List.all_eq_true.mp fldT_ok q hq
  simp only [Bool.and_eq_true] at h1
  obtain ⟨⟨⟨h3, h4⟩, h5⟩, h6⟩ := h1
  rw [← nb h3, ← nb h4, ← nb h5, ← nb h6]
  exact WL_of (of_decide_eq_true h2) rfl
theorem w_cI {o i : Nat} {v : Int32} (h : cIT.any (fun q => nbeq q.1 o && nbeq q.2.1 i && decide (q.2.2.1 = v)) = true) : Cond.constant (oN o) i v ∈ WL := by
  obtain ⟨q, hq, h1⟩ := List.any_eq_true.mp h
  have h2 := List.all_eq_true.mp cIT_ok q hq
  simp only [Bool.and_eq_true] at h1
  obtain ⟨⟨h3, h4⟩, h5⟩ := h1
  rw [← nb h3, ← nb h4, ← of_decide_eq_true h5]
  exact WL_of (of_decide_eq_true h2) rfl
theorem w_cJ {o i : Nat} {v : Int64} (h : cJT.any (fun q => nbeq q.1 o && nbeq q.2.1 i && decide (q.2.2.1 = v)) = true) : Cond.constantLong (oN o) i v ∈ WL := by
  obtain ⟨q, hq, h1⟩ := List.any_eq_true.mp h
  have h2 := List.all_eq_true.mp cJT_ok q hq
  simp only [Bool.and_eq_true] at h1
  obtain ⟨⟨h3, h4⟩, h5⟩ := h1
  rw [← nb h3, ← nb h4, ← of_decide_eq_true h5]
  exact WL_of (of_decide_eq_true h2) rfl
theorem w_in {o i b : Nat} (h : inT.any (fun q => nbeq q.1 o && nbeq q.2.1 i && nbeq q.2.2.1 b) = true) : Cond.methodLink (oN o) i (iN b) ∈ WL := by
  obtain ⟨q, hq, h1⟩ := List.any_eq_true.mp h
  have h2 := List.all_eq_true.mp inT_ok q hq
  simp only [Bool.and_eq_true] at h1
  obtain ⟨⟨h3, h4⟩, h5⟩ := h1
  rw [← nb h3, ← nb h4, ← nb h5]
  exact WL_of (of_decide_eq_true h2) rfl
theorem w_cs {o i a : Nat} (h : csT.any (fun q => nbeq q.1 o && nbeq q.2.1 i && nbeq q.2.2.1 a) = true) : Cond.methodLink (oN o) i (mY a) ∈ WL := by
  obtain ⟨q, hq, h1⟩ := List.any_eq_true.mp h
  have h2 := List.all_eq_true.mp csT_ok q hq
  simp only [Bool.and_eq_true] at h1
  obtain ⟨⟨h3, h4⟩, h5⟩ := h1
  rw [← nb h3, ← nb h4, ← nb h5]
  exact WL_of (of_decide_eq_true h2) rfl
theorem w_cv {o i a : Nat} (h : cvT.any (fun q => nbeq q.1 o && nbeq q.2.1 i && nbeq q.2.2.1 a) = true) : Cond.methodLink (oN o) i (mY a) ∈ WL := by
  obtain ⟨q, hq, h1⟩ := List.any_eq_true.mp h
  have h2 := List.all_eq_true.mp cvT_ok q hq
  simp only [Bool.and_eq_true] at h1
  obtain ⟨⟨h3, h4⟩, h5⟩ := h1
  rw [← nb h3, ← nb h4, ← nb h5]
  exact WL_of (of_decide_eq_true h2) rfl
def cnts : List Nat := [1, 18, 36, 1, 1, 1, 1, 36, 36, 36, 1, 1, 1, 1, 1, 1, 1, 1, 1, 1, 1, 1, 1, 1, 1, 1, 1, 1, 1, 1, 1]
def allR : List (Nat × Nat) := (List.range 31).flatMap (fun k => (List.range (cnts.getD k 0)).map (fun i => (k, i)))
theorem allR_nd : allR.Nodup := by decide +kernel
theorem allR_iff {k i : Nat} : (k, i) ∈ allR ↔ k < 31 ∧ i < cnts.getD k 0 := by
  simp only [allR, List.mem_flatMap, List.mem_map, List.mem_range, Prod.mk.injEq]
  constructor
  · rintro ⟨a, ha, b, hb, rfl, rfl⟩
    exact ⟨ha, hb⟩
  · rintro ⟨h1, h2⟩
    exact ⟨k, h1, i, h2, rfl, rfl⟩
def okR (r : Nat × Nat) : Prop := r ∈ allR ∨ r = (31, 0) ∨ r = (32, 0)
def okV (v : PV) : Prop := match v with
  | .inr (.inr r) => okR r
  | _ => True
def okS (l : List PV) : Prop := ∀ v ∈ l, okV v
def okL (l : Lc) : Prop := ∀ (k : Nat) (v : PV), l[k]? = some (some v) → okV v
def trV (ad : Nat → Nat → Nat) (v : PV) : Value := match v with
  | .inl x => .int x
  | .inr (.inl x) => .long x
  | .inr (.inr (k, i)) => .ref (ad k i)
theorem trV_cat (ad : Nat → Nat → Nat) (v : PV) : (trV ad v).category = catP v := by
  rcases v with x | x | ⟨k, i⟩ <;> rfl
def fval (ad : Nat → Nat → Nat) (σ : Hp) (kd ix k : Nat) : Value := match fdOf kd k with
  | some none => .int (σ.1 kd ix k)
  | some (some none) => .long (σ.2.1 kd)
  | some (some (some g)) => .ref (ad (g ix).1 (g ix).2)
  | none => .null
abbrev CT : Type := ClassId × (ClassId × ClassId)
def cellO (ad : Nat → Nat → Nat) (ct : CT) (σ : Hp) (kd ix : Nat) : va_E := match arr σ kd with
  | some (0, n) => .inl (ct.1, n, .inl (σ.1 kd ix))
  | some (1, n) => .inl (ct.2.1, n, .inl (σ.1 kd ix))
  | some (_, n) => .inl (ct.2.2, n, .inr (.inr (.inr (.inr (fun j => some (ad 1 (qb kd + j)))))))
  | none => .inr (kd, (List.range (ftab.getD kd []).length).map (fval ad σ kd ix))
def wsO (ad : Nat → Nat → Nat) (ct : CT) (σ : Hp) : va_W := allR.map (fun r => (ad r.1 r.2, cellO ad ct σ r.1 r.2))
def tysO (ct : CT) : List (ClassId × FieldType) := [(ct.1, .int), (ct.2.1, .boolean), (ct.2.2, .object "ThreeGaps$Both")]
theorem wsO_at (ad : Nat → Nat → Nat) (ct : CT) {r : Nat × Nat} (h : r ∈ allR) : ∃ q0 : Nat, allR[q0]? = some r ∧ ∀ σ : Hp, (wsO ad ct σ)[q0]? = some (ad r.1 r.2, cellO ad ct σ r.1 r.2) := by
  obtain ⟨q0, hq⟩ := List.getElem?_of_mem h
  exact ⟨q0, hq, fun σ => by simp [wsO, hq]⟩
theorem wsO_set {ad : Nat → Nat → Nat} {ct : CT} {r : Nat × Nat} {q0 : Nat} {σ σ' : Hp} {e : va_E} (hq : allR[q0]? = some r) (he : cellO ad ct σ' r.1 r.2 = e) (ho : ∀ r' : Nat × Nat, r' ∈ allR → r' ≠ r → cellO ad ct σ' r'.1 r'.2 = cellO ad ct σ r'.1 r'.2) : (wsO ad ct σ).set q0 (ad r.1 r.2, e) = wsO ad ct σ' := by
  subst he
  have hlt := (List.getElem?_eq_some_iff.mp hq).1
  apply List.ext_getElem?
  intro i
  by_cases hi : i = q0
  · subst hi
    rw [List.getElem?_set_self (by simpa [wsO] using hlt)]
    simp [wsO, hq]
  · rw [List.getElem?_set_ne (Ne.symm hi)]
    simp only [wsO, List.getElem?_map]
    cases hr : allR[i]? with
    | none => rfl
    | some r' =>
      have hne : r' ≠ r := fun h => hi ((List.getElem?_inj (List.getElem?_eq_some_iff.mp hr).1 allR_nd).mp (by rw [hr, hq, h]))
      simp [ho r' (List.mem_of_getElem? hr) hne]
theorem hset_ne {f : Nat → Nat → Nat → Int32} {a b c : Nat} {v : Int32} {x y : Nat} (h : (x, y) ≠ (a, b)) : hset f a b c v x y = f x y := by
  funext z
  unfold hset
  rw [if_neg]
  rintro ⟨h1, h2, -⟩
  exact h (by rw [h1, h2])
theorem hset_eq {f : Nat → Nat → Nat → Int32} {a b c : Nat} {v : Int32} : hset f a b c v a b = upd (f a b) c v := by
  funext z
  unfold hset
  by_cases h : z = c
  · subst h
    simp [upd]
  · simp [upd, h]
theorem hrow_ne {f : Nat → Nat → Nat → Int32} {a b : Nat} {g : Nat → Int32} {x y : Nat} (h : (x, y) ≠ (a, b)) : hrow f a b g x y = f x y := by
  funext z
  unfold hrow
  rw [if_neg]
  rintro ⟨h1, h2⟩
  exact h (by rw [h1, h2])
theorem hrow_eq {f : Nat → Nat → Nat → Int32} {a b : Nat} {g : Nat → Int32} : hrow f a b g a b = g := by
  funext z
  simp [hrow]
theorem arr_congr {σ σ' : Hp} (kd : Nat) (h : σ'.2.2 = σ.2.2) : arr σ' kd = arr σ kd := by
  unfold arr
  rw [h]
theorem cellO_congr {ad : Nat → Nat → Nat} {ct : CT} {σ σ' : Hp} {kd ix : Nat} (h1 : σ'.1 kd ix = σ.1 kd ix) (h2 : σ'.2.1 kd = σ.2.1 kd) (h3 : σ'.2.2 = σ.2.2) : cellO ad ct σ' kd ix = cellO ad ct σ kd ix := by
  have hf : fval ad σ' kd ix = fval ad σ kd ix := by
    funext k
    unfold fval
    rw [h1, h2]
  unfold cellO
  rw [arr_congr kd h3, h1, hf]
theorem fvals_set {ad : Nat → Nat → Nat} {σ σ' : Hp} {kd ix b n : Nat} {w : Value} (h1 : fval ad σ' kd ix b = w) (h2 : ∀ k, k ≠ b → fval ad σ' kd ix k = fval ad σ kd ix k) : ((List.range n).map (fval ad σ kd ix)).set b w = (List.range n).map (fval ad σ' kd ix) := by
  apply List.ext_getElem?
  intro i
  rw [List.getElem?_set]
  by_cases hi : b = i
  · subst hi
    by_cases hb : b < n <;> simp [hb, h1]
  · rw [if_neg hi]
    by_cases hb : i < n <;> simp [hb, h2 i (Ne.symm hi)]
/-- what lies outside: the factorials, the script -/
def Ex (ad : Nat → Nat → Nat) (s : State) (A : Nat → Prop) (σ : Hp) : Prop :=
  va_Z "ThreeGaps" "FACTORIALS" "[I" (.ref (ad 31 0)) A s s.heap ∧ va_T .int (ad 31 0) 5 (fun j => .int (σ.1 31 0 j)) A s s.heap ∧ va_X (ad 32 0) σ.2.2 (σ.1 32 0) s s.heap ∧ ad 32 0 < s.heap.size ∧ ¬ A (ad 32 0)
theorem Ex.congr {ad : Nat → Nat → Nat} {s : State} {A : Nat → Prop} {σ σ' : Hp} (h : Ex ad s A σ) (h1 : σ'.1 31 0 = σ.1 31 0) (h2 : σ'.1 32 0 = σ.1 32 0) (h3 : σ'.2.2 = σ.2.2) : Ex ad s A σ' := by
  unfold Ex at h ⊢
  rw [h1, h2, h3]
  exact h
/-- the world at a point of a walk -/
def Wd (D : va_G) (ad : Nat → Nat → Nat) (ct : CT) (s : State) (A : Nat → Prop) (σ : Hp) (H : Heap) (locs : List Loc) : Prop :=
  va_P D vwCl (wsO ad ct σ) H ∧ va_D A (wsO ad ct σ) ∧ va_S A s.heap H locs ∧ Ex ad s A σ
/-- the frame's surroundings -/
def Cx (D : va_G) (ct : CT) (y : Nat) (p : Program) (s : State) (m : MethodId) (args : Array Value) (c : Code) : Prop :=
  p.tables.exec = Jvm.exec ∧ c.code = (mI y).1 ∧ c.maxLocals = (mI y).2.1 ∧ s.vm.findClass (oN (mI y).2.2.2.1) = some m.cls ∧ (∀ w ∈ WL, w.before args s = true) ∧ va_K D vwCl (tysO ct) s
/-- the locals -/
def Lr (ad : Nat → Nat → Nat) (n : Nat) (LS : Array Slot) (ls : Lc) : Prop := (LS.size = n ∧ ls.length = n) ∧ lv_wf LS ∧ ∀ (k : Nat) (v : PV), ls[k]? = some (some v) → LS[k]? = some (.val (trV ad v))
def asc (ad : Nat → Nat → Nat) (ls : Lc) : List (Nat × Value) := (List.range ls.length).filterMap (fun k => match ls[k]? with
  | some (some v) => some (k, trV ad v)
  | _ => none)
theorem asc_mem {ad : Nat → Nat → Nat} {ls : Lc} {q : Nat × Value} : q ∈ asc ad ls ↔ ∃ v, ls[q.1]? = some (some v) ∧ q.2 = trV ad v := by
  unfold asc
  rw [List.mem_filterMap]
  constructor
  · rintro ⟨k, -, h⟩
    split at h
    · next v hv =>
      cases h
      exact ⟨v, hv, rfl⟩
    · cases h
  · rintro ⟨v, hv, h2⟩
    refine ⟨q.1, List.mem_range.mpr (List.getElem?_eq_some_iff.mp hv).1, ?_⟩
    rw [hv]
    simp [← h2]
theorem Lr.has {ad : Nat → Nat → Nat} {n : Nat} {LS : Array Slot} {ls : Lc} (h : Lr ad n LS ls) : lv_has LS n (asc ad ls) := ⟨h.1.1, h.2.1, fun q hq => by
  obtain ⟨v, hv, h2⟩ := asc_mem.mp hq
  rw [h2]
  exact h.2.2 _ _ hv⟩
theorem okst_no {ls : Lc} {a k : Nat} {x : Int64} (h : okst ls a = true) (hk : k + 1 = a) : ls[k]? ≠ some (some (.inr (.inl x))) := by
  subst hk
  intro h2
  simp [okst, h2] at h
theorem Lr.of1 {ad : Nat → Nat → Nat} {n : Nat} {LS' : Array Slot} {ls : Lc} {a : Nat} {x : PV} (hn : ls.length = n) (ho : okst ls a = true) (h : lv_has LS' n ((a, trV ad x) :: (asc ad ls).filter (fun q => !(q.1 == a) && !(q.1 + 1 == a && q.2.category == 2)))) : Lr ad n LS' (ls.set a (some x)) := by
  refine ⟨⟨h.1, by simpa using hn⟩, h.2.1, fun k v hk => ?_⟩
  rw [List.getElem?_set] at hk
  by_cases hak : a = k
  · subst hak
    rw [if_pos rfl] at hk
    split at hk
    · cases hk
      exact h.2.2 (a, trV ad x) List.mem_cons_self
    · cases hk
  · rw [if_neg hak] at hk
    refine h.2.2 (k, trV ad v) (List.mem_cons_of_mem _ (List.mem_filter.mpr ⟨asc_mem.mpr ⟨v, hk, rfl⟩, ?_⟩))
    have h1 : (k == a) = false := by simpa using Ne.symm hak
    rw [h1]
    by_cases hka : k + 1 = a
    · have hc : ¬ (trV ad v).category = 2 := by
        rw [trV_cat]
        rcases v with v | v | v
        · simp [catP]
        · exact absurd hk (okst_no ho hka)
        · simp [catP]
      simp [hc]
    · simp [hka]
theorem Lr.of2 {ad : Nat → Nat → Nat} {n : Nat} {LS' : Array Slot} {ls : Lc} {a : Nat} {x : Int64} (hn : ls.length = n) (ho : okst ls a = true) (h : lv_has LS' n ((a, Value.long x) :: (asc ad ls).filter (fun q => !(q.1 == a) && (!(q.1 == a + 1) && !(q.1 + 1 == a && q.2.category == 2))))) : Lr ad n LS' ((ls.set a (some (.inr (.inl x)))).set (a + 1) none) := by
  refine ⟨⟨h.1, by simpa using hn⟩, h.2.1, fun k v hk => ?_⟩
  rw [List.getElem?_set] at hk
  by_cases hak1 : a + 1 = k
  · rw [if_pos hak1] at hk
    split at hk <;> cases hk
  · rw [if_neg hak1, List.getElem?_set] at hk
    by_cases hak : a = k
    · subst hak
      rw [if_pos rfl] at hk
      split at hk
      · cases hk
        exact h.2.2 (a, Value.long x) List.mem_cons_self
      · cases hk
    · rw [if_neg hak] at hk
      refine h.2.2 (k, trV ad v) (List.mem_cons_of_mem _ (List.mem_filter.mpr ⟨asc_mem.mpr ⟨v, hk, rfl⟩, ?_⟩))
      have h1 : (k == a) = false := by simpa using Ne.symm hak
      have h2 : (k == a + 1) = false := by simpa using Ne.symm hak1
      rw [h1, h2]
      by_cases hka : k + 1 = a
      · have hc : ¬ (trV ad v).category = 2 := by
          rw [trV_cat]
          rcases v with v | v | v
          · simp [catP]
          · exact absurd hk (okst_no ho hka)
          · simp [catP]
        simp [hc]
      · simp [hka]
theorem okL.set {ls : Lc} {a : Nat} {x : Option PV} (h : okL ls) (hx : ∀ v, x = some v → okV v) : okL (ls.set a x) := by
  intro k v hk
  rw [List.getElem?_set] at hk
  by_cases hak : a = k
  · rw [if_pos hak] at hk
    split at hk
    · exact hx v (Option.some.inj hk)
    · cases hk
  · rw [if_neg hak] at hk
    exact h k v hk
