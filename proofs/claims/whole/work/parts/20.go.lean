/-! Runs of straight stretches, and what ends them. -/
/-- whether an instruction is one of a straight stretch; b: which call -/
def strt (I : Jvm.ClassFile.Instr) (b : Nat) : Bool := match I with
  | .iaload => false
  | .baload => false
  | .aaload => false
  | .iastore => false
  | .bastore => false
  | .idiv => false
  | .irem => false
  | .ldiv => false
  | .lrem => false
  | .if_icmp _ _ => false
  | .ifCond _ _ => false
  | .invokevirtual _ => false
  | .invokestatic _ => match b with
    | 0 => false
    | 4 => false
    | _ => true
  | .tableswitch _ _ _ _ => false
  | .lookupswitch _ _ => false
  | .ireturn => false
  | .lreturn => false
  | .areturn => false
  | .return_ => false
  | _ => true
/-- whether a number is in a list -/
def inl (n : Nat) : List Nat → Bool
  | [] => false
  | m :: ms => match Nat.beq n m with
    | true => true
    | false => inl n ms
def go (y : Nat) (S : List Nat) : Nat → Nat → Lc → List PV → Hp → Option (Nat × (Lc × (List PV × Hp)))
  | 0, pc, ls, stk, σ => some (pc, ls, stk, σ)
  | k + 1, pc, ls, stk, σ => match fetch y pc with
    | none => none
    | some e => match strt e.2.1 e.2.2.2.2.1 with
      | false => match nrm stk with
        | none => none
        | some l2 => some (pc, ls, l2, σ)
      | true => match xexec cn y e ls stk σ with
        | some (.inl (pc', ls', stk', σ')) => match nrm ls' with
          | none => none
          | some l1 => match nrm stk' with
            | none => none
            | some l2 => match inl pc' S with
              | true => some (pc', l1, l2, σ')
              | false => go y S k pc' l1 l2 σ'
        | _ => none
section RU
variable {y pc pc' nxt : Nat} {ls ls' : Lc} {stk stk' r : List PV} {σ σ' : Hp} {Q Q' : Option PV → Hp → Prop} {e : En} {S : List Nat}
theorem RR_go0 : ∀ (k : Nat) {pc pc' : Nat} {ls ls' : Lc} {stk stk' : List PV} {σ σ' : Hp} (_ : go y S k pc ls stk σ = some (pc', ls', stk', σ')) (_ : RR y pc' ls' stk' σ' Q), RR y pc ls stk σ Q
  | 0, _, _, _, _, _, _, _, _, h, kk => by cases h; exact kk
  | k + 1, _, _, _, _, _, _, _, _, h, kk => by
    unfold go at h
    split at h
    · cases h
    · next e he =>
      split at h
      · rw [nrm_eq] at h
        cases h
        exact kk
      · split at h
        · next hx =>
          rw [nrm_eq, nrm_eq] at h
          simp only at h
          split at h
          · cases h
            exact RR_step he hx kk
          · exact RR_step he hx (RR_go0 k h kk)
        · cases h
/-- run to a place of S, or to what ends a straight stretch -/
theorem G_to (S : List Nat) (h : go y S 80 pc ls stk σ = some (pc', ls', stk', σ')) (k : RR y pc' ls' stk' σ' Q) : RR y pc ls stk σ Q := RR_go0 80 h k
def gif (y pc : Nat) (ls : Lc) (stk : List PV) (σ : Hp) : Option ((Prop × (Nat × (Nat × List PV))) × (Lc × Hp)) := match go y [] 80 pc ls stk σ with
  | none => none
  | some (pc', ls', stk', σ') => match brq y pc' stk' with
    | none => none
    | some q => some (q, ls', σ')
theorem G_if {P : Prop} {t f : Nat} (h : gif y pc ls stk σ = some ((P, t, f, r), ls', σ')) (kt : P → RR y t ls' r σ' Q) (kf : ¬ P → RR y f ls' r σ' Q) : RR y pc ls stk σ Q := by
  unfold gif at h
  split at h
  · cases h
  · next h1 =>
    split at h
    · cases h
    · next h2 =>
      cases h
      exact RR_go0 80 h1 (RR_if h2 kt kf)
def gald (y pc : Nat) (ls : Lc) (stk : List PV) (σ : Hp) : Option ((Int32 × (Nat × ((Nat → PV) × (Nat × List PV)))) × (Lc × Hp)) := match go y [] 80 pc ls stk σ with
  | none => none
  | some (pc', ls', stk', σ') => match aldq y pc' stk' σ' with
    | none => none
    | some q => some (q, ls', σ')
theorem G_ald {i : Int32} {n : Nat} {f : Nat → PV} (h : gald y pc ls stk σ = some ((i, n, f, nxt, r), ls', σ')) (j : Nat) (hi : i = nI j) (hj : j < n) (hn : n < 2147483648) (k : RR y nxt ls' (f j :: r) σ' Q) : RR y pc ls stk σ Q := by
  unfold gald at h
  split at h
  · cases h
  · next h1 =>
    split at h
    · cases h
    · next h2 =>
      cases h
      exact RR_go0 80 h1 (RR_ald h2 j hi hj hn k)
def gast (y pc : Nat) (ls : Lc) (stk : List PV) (σ : Hp) : Option ((Int32 × (Int32 × (Nat × ((Nat → Hp) × (Nat × (List PV × Bool)))))) × Lc) := match go y [] 80 pc ls stk σ with
  | none => none
  | some (pc', ls', stk', σ') => match astq y pc' stk' σ' with
    | none => none
    | some q => some (q, ls')
theorem G_ast {i v : Int32} {n : Nat} {f : Nat → Hp} (h : gast y pc ls stk σ = some ((v, i, n, f, nxt, r, false), ls')) (j : Nat) (hi : i = nI j) (hj : j < n) (hn : n < 2147483648) (k : RR y nxt ls' r (f j) Q) : RR y pc ls stk σ Q := by
  unfold gast at h
  split at h
  · cases h
  · next h1 =>
    split at h
    · cases h
    · next h2 =>
      cases h
      exact RR_go0 80 h1 (RR_ast h2 j hi hj hn (fun q => by cases q) k)
theorem G_zst {i v : Int32} {n : Nat} {f : Nat → Hp} (h : gast y pc ls stk σ = some ((v, i, n, f, nxt, r, true), ls')) (j : Nat) (hi : i = nI j) (hj : j < n) (hn : n < 2147483648) (hz : zOk v) (k : RR y nxt ls' r (f j) Q) : RR y pc ls stk σ Q := by
  unfold gast at h
  split at h
  · cases h
  · next h1 =>
    split at h
    · cases h
    · next h2 =>
      cases h
      exact RR_go0 80 h1 (RR_ast h2 j hi hj hn (fun _ => hz) k)
def gdiv (y pc : Nat) (ls : Lc) (stk : List PV) (σ : Hp) : Option (((Int32 × Int32) × (Nat × List PV)) × (Lc × Hp)) := match go y [] 80 pc ls stk σ with
  | none => none
  | some (pc', ls', stk', σ') => match divq y pc' stk' with
    | none => none
    | some q => some (q, ls', σ')
theorem G_div {z w : Int32} (h : gdiv y pc ls stk σ = some (((z, w), nxt, r), ls', σ')) (hz : ¬ z = 0) (k : RR y nxt ls' (.inl w :: r) σ' Q) : RR y pc ls stk σ Q := by
  unfold gdiv at h
  split at h
  · cases h
  · next h1 =>
    split at h
    · cases h
    · next h2 =>
      cases h
      exact RR_go0 80 h1 (RR_div h2 hz k)
def gldiv (y pc : Nat) (ls : Lc) (stk : List PV) (σ : Hp) : Option (((Int64 × Int64) × (Nat × List PV)) × (Lc × Hp)) := match go y [] 80 pc ls stk σ with
  | none => none
  | some (pc', ls', stk', σ') => match ldivq y pc' stk' with
    | none => none
    | some q => some (q, ls', σ')
theorem G_ldiv {z w : Int64} (h : gldiv y pc ls stk σ = some (((z, w), nxt, r), ls', σ')) (hz : ¬ z = 0) (k : RR y nxt ls' (.inr (.inl w) :: r) σ' Q) : RR y pc ls stk σ Q := by
  unfold gldiv at h
  split at h
  · cases h
  · next h1 =>
    split at h
    · cases h
    · next h2 =>
      cases h
      exact RR_go0 80 h1 (RR_ldiv h2 hz k)
def gcall (y pc : Nat) (ls : Lc) (stk : List PV) (σ : Hp) : Option ((Nat × (List PV × (List PV × Nat))) × (Lc × Hp)) := match go y [] 80 pc ls stk σ with
  | none => none
  | some (pc', ls', stk', σ') => match callq y pc' stk' with
    | none => none
    | some q => some (q, ls', σ')
theorem G_call {y' : Nat} {vs rest : List PV} (h : gcall y pc ls stk σ = some ((y', vs, rest, nxt), ls', σ')) (hc : Ev y' vs σ' Q') (k : ∀ r1 σ1, Q' r1 σ1 → RR y nxt ls' (r1.toList ++ rest) σ1 Q) : RR y pc ls stk σ Q := by
  unfold gcall at h
  split at h
  · cases h
  · next h1 =>
    split at h
    · cases h
    · next h2 =>
      cases h
      exact RR_go0 80 h1 (RR_call h2 hc k)
theorem G_callv {y' : Nat} {vs vs0 rest : List PV} (h : gcall y pc ls stk σ = some ((y', vs0, rest, nxt), ls', σ')) (hv : vs0 = vs) (hc : Ev y' vs σ' Q') (k : ∀ r1 σ1, Q' r1 σ1 → RR y nxt ls' (r1.toList ++ rest) σ1 Q) : RR y pc ls stk σ Q := by
  subst hv
  exact G_call h hc k
def gret (y pc : Nat) (ls : Lc) (stk : List PV) (σ : Hp) : Option ((Option PV × Bool) × Hp) := match go y [] 80 pc ls stk σ with
  | none => none
  | some (pc', _, stk', σ') => match retq y pc' stk' with
    | none => none
    | some q => some (q, σ')
theorem G_ret {rv : Option PV} (h : gret y pc ls stk σ = some ((rv, false), σ')) (k : Q rv σ') : RR y pc ls stk σ Q := by
  unfold gret at h
  split at h
  · cases h
  · next h1 =>
    split at h
    · cases h
    · next h2 =>
      cases h
      exact RR_go0 80 h1 (RR_ret h2 k)
theorem G_retZ {x : Int32} (h : gret y pc ls stk σ = some ((some (.inl x), true), σ')) (hz : zOk x) (k : Q (some (.inl x)) σ') : RR y pc ls stk σ Q := by
  unfold gret at h
  split at h
  · cases h
  · next h1 =>
    split at h
    · cases h
    · next h2 =>
      cases h
      exact RR_go0 80 h1 (RR_retZ h2 hz k)
end RU
