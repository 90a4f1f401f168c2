/-! What a step of the small machine says, by its sort. -/
section INV
variable {nxt a b t pc' : Nat} {ls ls' : Lc} {stk stk' : List PV} {σ σ' : Hp}
theorem nx_inv {pc : Nat} (h : nx pc ls stk σ = some (.inl (pc', ls', stk', σ'))) : pc' = pc ∧ ls' = ls ∧ stk' = stk ∧ σ' = σ := by
  simp only [nx, Option.some.injEq, Sum.inl.injEq, Prod.mk.injEq] at h
  exact ⟨h.1.symm, h.2.1.symm, h.2.2.1.symm, h.2.2.2.symm⟩
theorem bIf_inv {c : Bool} {f : Option Sr} {r : Sr} (h : bIf c f none = some r) : c = true ∧ f = some r := by
  cases c
  · cases h
  · exact ⟨rfl, h⟩
theorem xloadI (h : xload nxt 0 a ls stk σ = some (.inl (pc', ls', stk', σ'))) : ∃ x : Int32, ls[a]? = some (some (.inl x)) ∧ pc' = nxt ∧ ls' = ls ∧ stk' = .inl x :: stk ∧ σ' = σ := by
  unfold xload at h
  split at h
  · next x _ hx => exact ⟨x, hx, nx_inv h⟩
  · next h1 _ => cases h1
  · next h1 _ => cases h1
  · cases h
theorem xloadL (h : xload nxt 1 a ls stk σ = some (.inl (pc', ls', stk', σ'))) : ∃ x : Int64, ls[a]? = some (some (.inr (.inl x))) ∧ pc' = nxt ∧ ls' = ls ∧ stk' = .inr (.inl x) :: stk ∧ σ' = σ := by
  unfold xload at h
  split at h
  · next h1 _ => cases h1
  · next x _ hx => exact ⟨x, hx, nx_inv h⟩
  · next h1 _ => cases h1
  · cases h
theorem xloadR (h : xload nxt 2 a ls stk σ = some (.inl (pc', ls', stk', σ'))) : ∃ x : Nat × Nat, ls[a]? = some (some (.inr (.inr x))) ∧ pc' = nxt ∧ ls' = ls ∧ stk' = .inr (.inr x) :: stk ∧ σ' = σ := by
  unfold xload at h
  split at h
  · next h1 _ => cases h1
  · next h1 _ => cases h1
  · next x _ hx => exact ⟨x, hx, nx_inv h⟩
  · cases h
theorem xstoreI (h : xstore nxt 0 a ls stk σ = some (.inl (pc', ls', stk', σ'))) : ∃ (x : Int32) (r : List PV), stk = .inl x :: r ∧ okst ls a = true ∧ a < ls.length ∧ pc' = nxt ∧ ls' = ls.set a (some (.inl x)) ∧ stk' = r ∧ σ' = σ := by
  unfold xstore at h
  split at h
  · next x r _ =>
    obtain ⟨h1, h2⟩ := bIf_inv h
    simp only [Bool.and_eq_true, Nat.blt_eq] at h1
    exact ⟨x, r, rfl, h1.1, h1.2, nx_inv h2⟩
  · next h1 => cases h1
  · next h1 => cases h1
  · cases h
theorem xstoreL (h : xstore nxt 1 a ls stk σ = some (.inl (pc', ls', stk', σ'))) : ∃ (x : Int64) (r : List PV), stk = .inr (.inl x) :: r ∧ okst ls a = true ∧ a + 1 < ls.length ∧ pc' = nxt ∧ ls' = (ls.set a (some (.inr (.inl x)))).set (a + 1) none ∧ stk' = r ∧ σ' = σ := by
  unfold xstore at h
  split at h
  · next h1 => cases h1
  · next x r _ =>
    obtain ⟨h1, h2⟩ := bIf_inv h
    simp only [Bool.and_eq_true, Nat.blt_eq] at h1
    exact ⟨x, r, rfl, h1.1, h1.2, nx_inv h2⟩
  · next h1 => cases h1
  · cases h
theorem xstoreR (h : xstore nxt 2 a ls stk σ = some (.inl (pc', ls', stk', σ'))) : ∃ (x : Nat × Nat) (r : List PV), stk = .inr (.inr x) :: r ∧ okst ls a = true ∧ a < ls.length ∧ pc' = nxt ∧ ls' = ls.set a (some (.inr (.inr x))) ∧ stk' = r ∧ σ' = σ := by
  unfold xstore at h
  split at h
  · next h1 => cases h1
  · next h1 => cases h1
  · next x r _ =>
    obtain ⟨h1, h2⟩ := bIf_inv h
    simp only [Bool.and_eq_true, Nat.blt_eq] at h1
    exact ⟨x, r, rfl, h1.1, h1.2, nx_inv h2⟩
  · cases h
theorem xiiI {f : Int32 → Int32 → Int32} (h : xii f nxt ls stk σ = some (.inl (pc', ls', stk', σ'))) : ∃ (y x : Int32) (r : List PV), stk = .inl y :: .inl x :: r ∧ pc' = nxt ∧ ls' = ls ∧ stk' = .inl (f x y) :: r ∧ σ' = σ := by
  unfold xii at h
  split at h
  · next y x r => exact ⟨y, x, r, rfl, nx_inv h⟩
  · cases h
theorem xllI {f : Int64 → Int64 → Int64} (h : xll f nxt ls stk σ = some (.inl (pc', ls', stk', σ'))) : ∃ (y x : Int64) (r : List PV), stk = .inr (.inl y) :: .inr (.inl x) :: r ∧ pc' = nxt ∧ ls' = ls ∧ stk' = .inr (.inl (f x y)) :: r ∧ σ' = σ := by
  unfold xll at h
  split at h
  · next y x r => exact ⟨y, x, r, rfl, nx_inv h⟩
  · cases h
theorem xdivI {f : Int32 → Int32 → Int32} (h : xdiv f nxt ls stk σ = some (.inl (pc', ls', stk', σ'))) : ∃ (y x : Int32) (r : List PV), stk = .inl y :: .inl x :: r ∧ ¬ y = 0 ∧ pc' = nxt ∧ ls' = ls ∧ stk' = .inl (f x y) :: r ∧ σ' = σ := by
  unfold xdiv at h
  split at h
  · next y x r =>
    split at h
    · cases h
    · next hy => exact ⟨y, x, r, rfl, hy, nx_inv h⟩
  · cases h
theorem xldivI {f : Int64 → Int64 → Int64} (h : xldiv f nxt ls stk σ = some (.inl (pc', ls', stk', σ'))) : ∃ (y x : Int64) (r : List PV), stk = .inr (.inl y) :: .inr (.inl x) :: r ∧ ¬ y = 0 ∧ pc' = nxt ∧ ls' = ls ∧ stk' = .inr (.inl (f x y)) :: r ∧ σ' = σ := by
  unfold xldiv at h
  split at h
  · next y x r =>
    split at h
    · cases h
    · next hy => exact ⟨y, x, r, rfl, hy, nx_inv h⟩
  · cases h
/-- what a field's value is, by its sort -/
def gval (fd : FD) (σ : Hp) (kd ix k : Nat) : PV := match fd with
  | none => .inl (σ.1 kd ix k)
  | some none => .inr (.inl (σ.2.1 kd))
  | some (some g) => .inr (.inr (g ix))
theorem xgetI (h : xget nxt a b ls stk σ = some (.inl (pc', ls', stk', σ'))) : ∃ (ix : Nat) (r : List PV) (fd : FD), stk = .inr (.inr (a, ix)) :: r ∧ fdOf a b = some fd ∧ pc' = nxt ∧ ls' = ls ∧ stk' = gval fd σ a ix b :: r ∧ σ' = σ := by
  unfold xget at h
  split at h
  · next kd ix r =>
    obtain ⟨h1, h2⟩ := bIf_inv h
    have h1 := Nat.eq_of_beq_eq_true h1
    subst h1
    split at h2
    · next hf => exact ⟨ix, r, none, rfl, hf, nx_inv h2⟩
    · next hf => exact ⟨ix, r, some none, rfl, hf, nx_inv h2⟩
    · next g hf => exact ⟨ix, r, some (some g), rfl, hf, nx_inv h2⟩
    · cases h2
  · cases h
theorem xputI (h : xput nxt a b ls stk σ = some (.inl (pc', ls', stk', σ'))) : (∃ (x : Int32) (ix : Nat) (r : List PV), stk = .inl x :: .inr (.inr (a, ix)) :: r ∧ fdOf a b = some none ∧ (isZ a b = true → zOk x) ∧ pc' = nxt ∧ ls' = ls ∧ stk' = r ∧ σ' = (hset σ.1 a ix b x, σ.2)) ∨ (∃ (x : Int64) (ix : Nat) (r : List PV), stk = .inr (.inl x) :: .inr (.inr (a, ix)) :: r ∧ fdOf a b = some (some none) ∧ pc' = nxt ∧ ls' = ls ∧ stk' = r ∧ σ' = (σ.1, lset σ.2.1 a x, σ.2.2)) := by
  unfold xput at h
  split at h
  · next x kd ix r =>
    obtain ⟨h1, h2⟩ := bIf_inv h
    have h1 := Nat.eq_of_beq_eq_true h1
    subst h1
    split at h2
    · next hf =>
      left
      split at h2
      · next hz => exact ⟨x, ix, r, rfl, hf, fun q => (by rw [hz] at q; cases q), nx_inv h2⟩
      · split at h2
        · next hz => exact ⟨x, ix, r, rfl, hf, fun _ => hz, nx_inv h2⟩
        · cases h2
    · cases h2
  · next x kd ix r =>
    obtain ⟨h1, h2⟩ := bIf_inv h
    have h1 := Nat.eq_of_beq_eq_true h1
    subst h1
    split at h2
    · next hf => exact Or.inr ⟨x, ix, r, rfl, hf, nx_inv h2⟩
    · cases h2
  · cases h
theorem xaldI (h : xald nxt ls stk σ = some (.inl (pc', ls', stk', σ'))) : ∃ (i : Int32) (kd ix n : Nat) (r : List PV), stk = .inl i :: .inr (.inr (kd, ix)) :: r ∧ (arr σ kd = some (0, n) ∨ arr σ kd = some (3, n)) ∧ vp_in i n ∧ pc' = nxt ∧ ls' = ls ∧ stk' = .inl (σ.1 kd ix i.toNatClampNeg) :: r ∧ σ' = σ := by
  unfold xald at h
  split at h
  · next i kd ix r =>
    split at h
    · next n ha =>
      split at h
      · next hi => exact ⟨i, kd, ix, n, r, rfl, Or.inl ha, hi, nx_inv h⟩
      · cases h
    · next n ha =>
      split at h
      · next hi => exact ⟨i, kd, ix, n, r, rfl, Or.inr ha, hi, nx_inv h⟩
      · cases h
    · cases h
  · cases h
theorem xzldI (h : xzld nxt ls stk σ = some (.inl (pc', ls', stk', σ'))) : ∃ (i : Int32) (kd ix n : Nat) (r : List PV), stk = .inl i :: .inr (.inr (kd, ix)) :: r ∧ arr σ kd = some (1, n) ∧ vp_in i n ∧ pc' = nxt ∧ ls' = ls ∧ stk' = .inl (σ.1 kd ix i.toNatClampNeg) :: r ∧ σ' = σ := by
  unfold xzld at h
  split at h
  · next i kd ix r =>
    split at h
    · next n ha =>
      split at h
      · next hi => exact ⟨i, kd, ix, n, r, rfl, ha, hi, nx_inv h⟩
      · cases h
    · cases h
  · cases h
theorem xqldI (h : xqld nxt ls stk σ = some (.inl (pc', ls', stk', σ'))) : ∃ (i : Int32) (kd ix n : Nat) (r : List PV), stk = .inl i :: .inr (.inr (kd, ix)) :: r ∧ arr σ kd = some (2, n) ∧ vp_in i n ∧ pc' = nxt ∧ ls' = ls ∧ stk' = .inr (.inr (1, qb kd + i.toNatClampNeg)) :: r ∧ σ' = σ := by
  unfold xqld at h
  split at h
  · next i kd ix r =>
    split at h
    · next n ha =>
      split at h
      · next hi => exact ⟨i, kd, ix, n, r, rfl, ha, hi, nx_inv h⟩
      · cases h
    · cases h
  · cases h
theorem xastI (h : xast nxt ls stk σ = some (.inl (pc', ls', stk', σ'))) : ∃ (x i : Int32) (kd ix n : Nat) (r : List PV), stk = .inl x :: .inl i :: .inr (.inr (kd, ix)) :: r ∧ arr σ kd = some (0, n) ∧ vp_in i n ∧ pc' = nxt ∧ ls' = ls ∧ stk' = r ∧ σ' = (hset σ.1 kd ix i.toNatClampNeg x, σ.2) := by
  unfold xast at h
  split at h
  · next x i kd ix r =>
    split at h
    · next n ha =>
      split at h
      · next hi => exact ⟨x, i, kd, ix, n, r, rfl, ha, hi, nx_inv h⟩
      · cases h
    · cases h
  · cases h
theorem xzstI (h : xzst nxt ls stk σ = some (.inl (pc', ls', stk', σ'))) : ∃ (x i : Int32) (kd ix n : Nat) (r : List PV), stk = .inl x :: .inl i :: .inr (.inr (kd, ix)) :: r ∧ arr σ kd = some (1, n) ∧ vp_in i n ∧ zOk x ∧ pc' = nxt ∧ ls' = ls ∧ stk' = r ∧ σ' = (hset σ.1 kd ix i.toNatClampNeg x, σ.2) := by
  unfold xzst at h
  split at h
  · next x i kd ix r =>
    split at h
    · next n ha =>
      split at h
      · next hi => exact ⟨x, i, kd, ix, n, r, rfl, ha, hi.1, hi.2, nx_inv h⟩
      · cases h
    · cases h
  · cases h
theorem xalenI (h : xalen nxt ls stk σ = some (.inl (pc', ls', stk', σ'))) : ∃ (kd ix n : Nat) (r : List PV), stk = .inr (.inr (kd, ix)) :: r ∧ arr σ kd = some (3, n) ∧ pc' = nxt ∧ ls' = ls ∧ stk' = .inl (Int32.ofNat n) :: r ∧ σ' = σ := by
  unfold xalen at h
  split at h
  · next kd ix r =>
    split at h
    · next n ha => exact ⟨kd, ix, n, r, rfl, ha, nx_inv h⟩
    · cases h
  · cases h
theorem xcpyI (h : xcpy nxt ls stk σ = some (.inl (pc', ls', stk', σ'))) : ∃ (n dp sp : Int32) (kd ix kd0 ix0 n0 n1 : Nat) (r : List PV), stk = .inl n :: .inl dp :: .inr (.inr (kd, ix)) :: .inl sp :: .inr (.inr (kd0, ix0)) :: r ∧ arr σ kd0 = some (0, n0) ∧ arr σ kd = some (0, n1) ∧ cpyOk sp dp n n0 n1 ∧ pc' = nxt ∧ ls' = ls ∧ stk' = r ∧ σ' = (hrow σ.1 kd ix (va_cpy (σ.1 kd0 ix0) (σ.1 kd ix) sp.toNatClampNeg dp.toNatClampNeg n.toNatClampNeg), σ.2) := by
  unfold xcpy at h
  split at h
  · next n dp kd ix sp kd0 ix0 r =>
    split at h
    · next n0 n1 h0 h1 =>
      split at h
      · next hi => exact ⟨n, dp, sp, kd, ix, kd0, ix0, n0, n1, r, rfl, h0, h1, hi, nx_inv h⟩
      · cases h
    · cases h
  · cases h
end INV
theorem okS.tl {v : PV} {r : List PV} (h : okS (v :: r)) : okS r := fun w hw => h w (List.mem_cons_of_mem _ hw)
theorem okS.hd {v : PV} {r : List PV} (h : okS (v :: r)) : okV v := h v List.mem_cons_self
theorem okS.cons {v : PV} {r : List PV} (hv : okV v) (h : okS r) : okS (v :: r) := fun w hw => by
  rcases List.mem_cons.mp hw with h1 | h1
  · rw [h1]; exact hv
  · exact h w h1
theorem okS.i {x : Int32} {r : List PV} (h : okS r) : okS (.inl x :: r) := okS.cons trivial h
theorem okS.l {x : Int64} {r : List PV} (h : okS r) : okS (.inr (.inl x) :: r) := okS.cons trivial h
