/-! Rules for runs of the small machine. -/
theorem prun_mono : ∀ (n y pc : Nat) (ls : Lc) (stk : List PV) (σ : Hp) (x : Option PV × Hp), prun n y pc ls stk σ = some x → prun (n + 1) y pc ls stk σ = some x
  | 0, y, pc, ls, stk, σ, x, h => by cases h
  | n + 1, y, pc, ls, stk, σ, x, h => by
    have ih := prun_mono n
    unfold prun at h ⊢
    split at h
    · cases h
    · next e he =>
      split at h
      · cases h
      · next pc' ls' stk' σ1 hx => exact ih _ _ _ _ _ _ h
      · next y' vs rest nxt hx =>
        split at h
        · cases h
        · next hb =>
          split at h
          · cases h
          · next r1 σ1 h1 =>
            rw [ih _ _ _ _ _ _ h1]
            exact ih _ _ _ _ _ _ h
      · next r1 hx => exact h
theorem prun_le {n m y pc : Nat} {ls : Lc} {stk : List PV} {σ : Hp} {x : Option PV × Hp} (h : prun n y pc ls stk σ = some x) (hnm : n ≤ m) : prun m y pc ls stk σ = some x := by
  induction hnm with
  | refl => exact h
  | step _ ih => exact prun_mono _ _ _ _ _ _ _ ih
/-- from here it comes to a return with Q -/
def RR (y pc : Nat) (ls : Lc) (stk : List PV) (σ : Hp) (Q : Option PV → Hp → Prop) : Prop := ∃ (n : Nat) (r : Option PV) (σ' : Hp), prun n y pc ls stk σ = some (r, σ') ∧ Q r σ'
/-- a method, called with these values -/
def Ev (y : Nat) (vs : List PV) (σ : Hp) (Q : Option PV → Hp → Prop) : Prop := RR y 0 (ent y vs) [] σ Q
section RU
variable {y pc pc' nxt : Nat} {ls ls' : Lc} {stk stk' r : List PV} {σ σ' : Hp} {Q Q' : Option PV → Hp → Prop} {e : En}
theorem RR.mono (h : RR y pc ls stk σ Q) (hq : ∀ r σ', Q r σ' → Q' r σ') : RR y pc ls stk σ Q' := by
  obtain ⟨n, r, σ', h1, h2⟩ := h
  exact ⟨n, r, σ', h1, hq _ _ h2⟩
theorem RR_step (hf : fetch y pc = some e) (hx : xexec cn y e ls stk σ = some (.inl (pc', ls', stk', σ'))) (k : RR y pc' ls' stk' σ' Q) : RR y pc ls stk σ Q := by
  obtain ⟨n, r, s', h, hq⟩ := k
  refine ⟨n + 1, r, s', ?_, hq⟩
  unfold prun
  rw [hf]
  simp only [hx]
  exact h
theorem RR_ret0 {rv : Option PV} (hf : fetch y pc = some e) (hx : xexec cn y e ls stk σ = some (.inr (.inr rv))) (k : Q rv σ) : RR y pc ls stk σ Q := by
  refine ⟨1, rv, σ, ?_, k⟩
  unfold prun
  rw [hf]
  simp only [hx]
theorem RR_call0 {y' : Nat} {vs rest : List PV} (hf : fetch y pc = some e) (hx : xexec cn y e ls stk σ = some (.inr (.inl (y', vs, rest, nxt)))) (hb : Nat.ble (entA vs).length (mI y').2.1 = true) (hc : Ev y' vs σ Q') (k : ∀ r1 σ1, Q' r1 σ1 → RR y nxt ls (r1.toList ++ rest) σ1 Q) : RR y pc ls stk σ Q := by
  obtain ⟨n1, r1, s1, h1, hq1⟩ := hc
  obtain ⟨n2, r2, s2, h2, hq2⟩ := k r1 s1 hq1
  refine ⟨max n1 n2 + 1, r2, s2, ?_, hq2⟩
  unfold prun
  rw [hf]
  simp only [hx, hb]
  rw [prun_le h1 (Nat.le_max_left n1 n2)]
  exact prun_le h2 (Nat.le_max_right n1 n2)
/-- a list, laid anew -/
def nrm {α : Type} : List α → Option (List α)
  | [] => some []
  | x :: xs => match nrm xs with
    | none => none
    | some ys => some (x :: ys)
theorem nrm_eq {α : Type} : ∀ (l : List α), nrm l = some l
  | [] => rfl
  | x :: xs => by
    unfold nrm
    rw [nrm_eq xs]
/-- k steps that stay in the frame and need no proof -/
def bl (y : Nat) : Nat → Nat → Lc → List PV → Hp → Option (Nat × (Lc × (List PV × Hp)))
  | 0, pc, ls, stk, σ => some (pc, ls, stk, σ)
  | k + 1, pc, ls, stk, σ => match fetch y pc with
    | none => none
    | some e => match xexec cn y e ls stk σ with
      | some (.inl (pc', ls', stk', σ')) => match nrm ls' with
        | none => none
        | some l1 => match nrm stk' with
          | none => none
          | some l2 => bl y k pc' l1 l2 σ'
      | _ => none
theorem RR_bl : ∀ (k : Nat) {pc pc' : Nat} {ls ls' : Lc} {stk stk' : List PV} {σ σ' : Hp} (_ : bl y k pc ls stk σ = some (pc', ls', stk', σ')) (_ : RR y pc' ls' stk' σ' Q), RR y pc ls stk σ Q
  | 0, _, _, _, _, _, _, _, _, h, kk => by cases h; exact kk
  | k + 1, _, _, _, _, _, _, _, _, h, kk => by
    unfold bl at h
    split at h
    · cases h
    · next e he =>
      split at h
      · next hx =>
        rw [nrm_eq, nrm_eq] at h
        exact RR_step he hx (RR_bl k h kk)
      · cases h
/-- a branch: what is asked, where to, what is left -/
def brq (y pc : Nat) (stk : List PV) : Option (Prop × (Nat × (Nat × List PV))) := match fetch y pc with
  | some (_, .if_icmp c _, nxt, a, _) => match stk with
    | .inl z :: .inl x :: r => match c with
      | .eq => some (x = z, a, nxt, r)
      | .ne => some (¬ x = z, a, nxt, r)
      | .lt => some (x < z, a, nxt, r)
      | .ge => some (z ≤ x, a, nxt, r)
      | .gt => some (z < x, a, nxt, r)
      | .le => some (x ≤ z, a, nxt, r)
    | _ => none
  | some (_, .ifCond c _, nxt, a, _) => match stk with
    | .inl x :: r => match c with
      | .eq => some (x = 0, a, nxt, r)
      | .ne => some (¬ x = 0, a, nxt, r)
      | .lt => some (x < 0, a, nxt, r)
      | .ge => some (0 ≤ x, a, nxt, r)
      | .gt => some (0 < x, a, nxt, r)
      | .le => some (x ≤ 0, a, nxt, r)
    | _ => none
  | _ => none
theorem RR_if {P : Prop} {t f : Nat} (h : brq y pc stk = some (P, t, f, r)) (kt : P → RR y t ls r σ Q) (kf : ¬ P → RR y f ls r σ Q) : RR y pc ls stk σ Q := by
  unfold brq at h
  split at h
  · next q0 c off nxt a q1 he =>
    split at h
    · next z x r0 =>
      have hx : ∀ (b : Bool), True := fun _ => trivial
      cases c <;> simp only [Option.some.injEq, Prod.mk.injEq] at h <;> obtain ⟨rfl, rfl, rfl, rfl⟩ := h
      · by_cases hc : x = z
        · exact RR_step he (by simp only [xexec]; exact if_pos hc) (kt hc)
        · exact RR_step he (by simp only [xexec]; exact if_neg hc) (kf hc)
      · by_cases hc : ¬ x = z
        · exact RR_step he (by simp only [xexec]; exact if_pos hc) (kt hc)
        · exact RR_step he (by simp only [xexec]; exact if_neg hc) (kf hc)
      · by_cases hc : x < z
        · exact RR_step he (by simp only [xexec]; exact if_pos hc) (kt hc)
        · exact RR_step he (by simp only [xexec]; exact if_neg hc) (kf hc)
      · by_cases hc : z ≤ x
        · exact RR_step he (by simp only [xexec]; exact if_pos hc) (kt hc)
        · exact RR_step he (by simp only [xexec]; exact if_neg hc) (kf hc)
      · by_cases hc : z < x
        · exact RR_step he (by simp only [xexec]; exact if_pos hc) (kt hc)
        · exact RR_step he (by simp only [xexec]; exact if_neg hc) (kf hc)
      · by_cases hc : x ≤ z
        · exact RR_step he (by simp only [xexec]; exact if_pos hc) (kt hc)
        · exact RR_step he (by simp only [xexec]; exact if_neg hc) (kf hc)
    · cases h
  · next q0 c off nxt a q1 he =>
    split at h
    · next x r0 =>
      cases c <;> simp only [Option.some.injEq, Prod.mk.injEq] at h <;> obtain ⟨rfl, rfl, rfl, rfl⟩ := h
      · by_cases hc : x = 0
        · exact RR_step he (by simp only [xexec]; exact if_pos hc) (kt hc)
        · exact RR_step he (by simp only [xexec]; exact if_neg hc) (kf hc)
      · by_cases hc : ¬ x = 0
        · exact RR_step he (by simp only [xexec]; exact if_pos hc) (kt hc)
        · exact RR_step he (by simp only [xexec]; exact if_neg hc) (kf hc)
      · by_cases hc : x < 0
        · exact RR_step he (by simp only [xexec]; exact if_pos hc) (kt hc)
        · exact RR_step he (by simp only [xexec]; exact if_neg hc) (kf hc)
      · by_cases hc : 0 ≤ x
        · exact RR_step he (by simp only [xexec]; exact if_pos hc) (kt hc)
        · exact RR_step he (by simp only [xexec]; exact if_neg hc) (kf hc)
      · by_cases hc : 0 < x
        · exact RR_step he (by simp only [xexec]; exact if_pos hc) (kt hc)
        · exact RR_step he (by simp only [xexec]; exact if_neg hc) (kf hc)
      · by_cases hc : x ≤ 0
        · exact RR_step he (by simp only [xexec]; exact if_pos hc) (kt hc)
        · exact RR_step he (by simp only [xexec]; exact if_neg hc) (kf hc)
    · cases h
  · cases h
/-- a place of an array is read -/
def aldq (y pc : Nat) (stk : List PV) (σ : Hp) : Option (Int32 × (Nat × ((Nat → PV) × (Nat × List PV)))) := match fetch y pc with
  | some (_, .iaload, nxt, _) => match stk with
    | .inl i :: .inr (.inr (kd, ix)) :: r => match arr σ kd with
      | some (0, n) => some (i, n, fun j => .inl (σ.1 kd ix j), nxt, r)
      | some (3, n) => some (i, n, fun j => .inl (σ.1 kd ix j), nxt, r)
      | _ => none
    | _ => none
  | some (_, .baload, nxt, _) => match stk with
    | .inl i :: .inr (.inr (kd, ix)) :: r => match arr σ kd with
      | some (1, n) => some (i, n, fun j => .inl (σ.1 kd ix j), nxt, r)
      | _ => none
    | _ => none
  | some (_, .aaload, nxt, _) => match stk with
    | .inl i :: .inr (.inr (kd, _)) :: r => match arr σ kd with
      | some (2, n) => some (i, n, fun j => .inr (.inr (1, qb kd + j)), nxt, r)
      | _ => none
    | _ => none
  | _ => none
theorem RR_ald {i : Int32} {n : Nat} {f : Nat → PV} (h : aldq y pc stk σ = some (i, n, f, nxt, r)) (j : Nat) (hi : i = nI j) (hj : j < n) (hn : n < 2147483648) (k : RR y nxt ls (f j :: r) σ Q) : RR y pc ls stk σ Q := by
  have hin : vp_in i n := by rw [hi]; exact vp_in_nI hj hn
  have hcl : i.toNatClampNeg = j := by rw [hi]; exact nI_clamp (Nat.lt_trans hj hn)
  unfold aldq at h
  split at h
  · next he =>
    split at h
    · split at h
      · next ha =>
        cases h
        refine RR_step he (by simp only [xexec, xald, ha]; exact if_pos hin) ?_
        rw [hcl]
        exact k
      · next ha =>
        cases h
        refine RR_step he (by simp only [xexec, xald, ha]; exact if_pos hin) ?_
        rw [hcl]
        exact k
      · cases h
    · cases h
  · next he =>
    split at h
    · split at h
      · next ha =>
        cases h
        refine RR_step he (by simp only [xexec, xzld, ha]; exact if_pos hin) ?_
        rw [hcl]
        exact k
      · cases h
    · cases h
  · next he =>
    split at h
    · split at h
      · next ha =>
        cases h
        refine RR_step he (by simp only [xexec, xqld, ha]; exact if_pos hin) ?_
        rw [hcl]
        exact k
      · cases h
    · cases h
  · cases h
/-- a place of an array is written -/
def astq (y pc : Nat) (stk : List PV) (σ : Hp) : Option (Int32 × (Int32 × (Nat × ((Nat → Hp) × (Nat × (List PV × Bool)))))) := match fetch y pc with
  | some (_, .iastore, nxt, _) => match stk with
    | .inl v :: .inl i :: .inr (.inr (kd, ix)) :: r => match arr σ kd with
      | some (0, n) => some (v, i, n, fun j => (hset σ.1 kd ix j v, σ.2), nxt, r, false)
      | _ => none
    | _ => none
  | some (_, .bastore, nxt, _) => match stk with
    | .inl v :: .inl i :: .inr (.inr (kd, ix)) :: r => match arr σ kd with
      | some (1, n) => some (v, i, n, fun j => (hset σ.1 kd ix j v, σ.2), nxt, r, true)
      | _ => none
    | _ => none
  | _ => none
theorem RR_ast {i v : Int32} {n : Nat} {f : Nat → Hp} {z : Bool} (h : astq y pc stk σ = some (v, i, n, f, nxt, r, z)) (j : Nat) (hi : i = nI j) (hj : j < n) (hn : n < 2147483648) (hz : z = true → zOk v) (k : RR y nxt ls r (f j) Q) : RR y pc ls stk σ Q := by
  have hin : vp_in i n := by rw [hi]; exact vp_in_nI hj hn
  have hcl : i.toNatClampNeg = j := by rw [hi]; exact nI_clamp (Nat.lt_trans hj hn)
  unfold astq at h
  split at h
  · next he =>
    split at h
    · split at h
      · next ha =>
        cases h
        refine RR_step he (by simp only [xexec, xast, ha]; exact if_pos hin) ?_
        rw [hcl]
        exact k
      · cases h
    · cases h
  · next he =>
    split at h
    · split at h
      · next ha =>
        cases h
        refine RR_step he (by simp only [xexec, xzst, ha]; exact if_pos ⟨hin, hz rfl⟩) ?_
        rw [hcl]
        exact k
      · cases h
    · cases h
  · cases h
/-- a division or a rest -/
def divq (y pc : Nat) (stk : List PV) : Option ((Int32 × Int32) × (Nat × List PV)) := match fetch y pc with
  | some (_, .idiv, nxt, _) => match stk with
    | .inl z :: .inl x :: r => some ((z, x / z), nxt, r)
    | _ => none
  | some (_, .irem, nxt, _) => match stk with
    | .inl z :: .inl x :: r => some ((z, jrem x z), nxt, r)
    | _ => none
  | _ => none
theorem RR_div {z w : Int32} (h : divq y pc stk = some ((z, w), nxt, r)) (hz : ¬ z = 0) (k : RR y nxt ls (.inl w :: r) σ Q) : RR y pc ls stk σ Q := by
  unfold divq at h
  split at h
  · next he =>
    split at h
    · cases h
      exact RR_step he (by simp only [xexec, xdiv]; exact if_neg hz) k
    · cases h
  · next he =>
    split at h
    · cases h
      exact RR_step he (by simp only [xexec, xdiv]; exact if_neg hz) k
    · cases h
  · cases h
def ldivq (y pc : Nat) (stk : List PV) : Option ((Int64 × Int64) × (Nat × List PV)) := match fetch y pc with
  | some (_, .ldiv, nxt, _) => match stk with
    | .inr (.inl z) :: .inr (.inl x) :: r => some ((z, x / z), nxt, r)
    | _ => none
  | some (_, .lrem, nxt, _) => match stk with
    | .inr (.inl z) :: .inr (.inl x) :: r => some ((z, jlrem x z), nxt, r)
    | _ => none
  | _ => none
theorem RR_ldiv {z w : Int64} (h : ldivq y pc stk = some ((z, w), nxt, r)) (hz : ¬ z = 0) (k : RR y nxt ls (.inr (.inl w) :: r) σ Q) : RR y pc ls stk σ Q := by
  unfold ldivq at h
  split at h
  · next he =>
    split at h
    · cases h
      exact RR_step he (by simp only [xexec, xldiv]; exact if_neg hz) k
    · cases h
  · next he =>
    split at h
    · cases h
      exact RR_step he (by simp only [xexec, xldiv]; exact if_neg hz) k
    · cases h
  · cases h
/-- the upper values of a stack, the lowest first, and the rest -/
def take2 : Nat → List PV → List PV → Option (List PV × List PV)
  | 0, st, acc => some (acc, st)
  | n + 1, v :: st, acc => take2 n st (v :: acc)
  | _ + 1, [], _ => none
theorem take2_eq : ∀ (n : Nat) (st acc vs rest : List PV), take2 n st acc = some (vs, rest) → vs = (st.take n).reverse ++ acc ∧ rest = st.drop n ∧ n ≤ st.length
  | 0, st, acc, vs, rest, h => by cases h; simp
  | n + 1, v :: st, acc, vs, rest, h => by
    obtain ⟨h1, h2, h3⟩ := take2_eq n st (v :: acc) vs rest h
    exact ⟨by rw [h1]; simp, by rw [h2]; simp, by simpa using h3⟩
  | n + 1, [], acc, vs, rest, h => by cases h
/-- a call: which method, its values, the rest, the next pc -/
def callq (y pc : Nat) (stk : List PV) : Option (Nat × (List PV × (List PV × Nat))) := match fetch y pc with
  | some (_, .invokestatic _, nxt, a, 0, _) => match take2 (cn a).1 stk [] with
    | some (vs, rest) => match Nat.ble (wds rest) 8 && Nat.ble (entA vs).length (mI a).2.1 with
      | true => some (a, vs, rest, nxt)
      | false => none
    | none => none
  | some (_, .invokevirtual _, nxt, a, _) => match take2 (cn a).1 stk [] with
    | some (.inr (.inr (kd, ix)) :: vs, rest) => match Nat.beq kd (cn a).2.1 && (Nat.ble (wds rest) 8 && Nat.ble (entA (.inr (.inr (kd, ix)) :: vs)).length (mI a).2.1) with
      | true => some (a, .inr (.inr (kd, ix)) :: vs, rest, nxt)
      | false => none
    | _ => none
  | _ => none
theorem RR_call {y' : Nat} {vs rest : List PV} (h : callq y pc stk = some (y', vs, rest, nxt)) (hc : Ev y' vs σ Q') (k : ∀ r1 σ1, Q' r1 σ1 → RR y nxt ls (r1.toList ++ rest) σ1 Q) : RR y pc ls stk σ Q := by
  unfold callq at h
  split at h
  · next he =>
    split at h
    · next ht =>
      split at h
      · next hb =>
        cases h
        simp only [Bool.and_eq_true] at hb
        obtain ⟨h1, h2, h3⟩ := take2_eq _ _ _ _ _ ht
        refine RR_call0 he ?_ hb.2 hc k
        simp only [xexec, xcall]
        rw [show (Nat.ble (cn y').1 stk.length && Nat.ble (wds (stk.drop (cn y').1)) 8) = true by rw [← h2]; simp only [Bool.and_eq_true]; exact ⟨Nat.ble_eq_true_of_le h3, hb.1⟩]
        rw [h1, h2]
        simp [bIf]
      · cases h
    · cases h
  · next he =>
    split at h
    · next kd ix vs0 rest0 ht =>
      split at h
      · next hb =>
        cases h
        simp only [Bool.and_eq_true] at hb
        obtain ⟨h1, h2, h3⟩ := take2_eq _ _ _ _ _ ht
        rw [List.append_nil] at h1
        refine RR_call0 he ?_ hb.2.2 hc k
        have h4 : stk.drop ((cn y').1 - 1) = .inr (.inr (kd, ix)) :: rest := by
          have h5 : stk = (Sum.inr (Sum.inr (kd, ix)) :: vs0).reverse ++ rest := by
            rw [h1, List.reverse_reverse, h2, List.take_append_drop]
          have h6 : (cn y').1 - 1 = vs0.reverse.length := by
            have h7 : (stk.take (cn y').1).reverse.length = (Sum.inr (Sum.inr (kd, ix)) :: vs0 : List PV).length := by rw [← h1]
            simp at h7 ⊢
            omega
          rw [h5, h6, List.reverse_cons, List.append_assoc, List.drop_left]
          rfl
        simp only [xexec, h4, hb.1, bIf, xcall]
        rw [show (Nat.ble (cn y').1 stk.length && Nat.ble (wds (stk.drop (cn y').1)) 8) = true by rw [← h2]; simp only [Bool.and_eq_true]; exact ⟨Nat.ble_eq_true_of_le h3, hb.2.1⟩]
        simp only [h1, h2]
      · cases h
    · cases h
  · cases h
/-- a return; of a boolean's method the answer is 0 or 1 -/
def retq (y pc : Nat) (stk : List PV) : Option (Option PV × Bool) := match fetch y pc with
  | some (_, .ireturn, _) => match stk with
    | [.inl x] => some (some (.inl x), (cn y).2.2)
    | _ => none
  | some (_, .lreturn, _) => match stk with
    | [.inr (.inl x)] => some (some (.inr (.inl x)), false)
    | _ => none
  | some (_, .areturn, _) => match stk with
    | [.inr (.inr x)] => some (some (.inr (.inr x)), false)
    | _ => none
  | some (_, .return_, _) => match stk with
    | [] => some (none, false)
    | _ => none
  | _ => none
theorem RR_ret {rv : Option PV} (h : retq y pc stk = some (rv, false)) (k : Q rv σ) : RR y pc ls stk σ Q := by
  unfold retq at h
  split at h
  · next he =>
    split at h
    · simp only [Option.some.injEq, Prod.mk.injEq] at h
      obtain ⟨rfl, h2⟩ := h
      exact RR_ret0 he (by simp only [xexec, h2]) k
    · cases h
  · next he =>
    split at h
    · cases h
      exact RR_ret0 he (by simp only [xexec]) k
    · cases h
  · next he =>
    split at h
    · cases h
      exact RR_ret0 he (by simp only [xexec]) k
    · cases h
  · next he =>
    split at h
    · cases h
      exact RR_ret0 he (by simp only [xexec]) k
    · cases h
  · cases h
theorem RR_retZ {x : Int32} (h : retq y pc stk = some (some (.inl x), true)) (hz : zOk x) (k : Q (some (.inl x)) σ) : RR y pc ls stk σ Q := by
  unfold retq at h
  split at h
  · next he =>
    split at h
    · simp only [Option.some.injEq, Prod.mk.injEq, Sum.inl.injEq] at h
      obtain ⟨rfl, h2⟩ := h
      exact RR_ret0 he (by simp only [xexec, h2]; exact if_pos hz) k
    · cases h
  · next he =>
    split at h
    · cases h
    · cases h
  · next he =>
    split at h
    · cases h
    · cases h
  · next he =>
    split at h
    · cases h
    · cases h
  · cases h
end RU
