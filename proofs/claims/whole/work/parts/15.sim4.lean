/-! Calls, returns: a run of the small machine is a walk of the real one. -/
theorem wsO_D {ad : Nat → Nat → Nat} {ct : CT} {A : Nat → Prop} {σ : Hp} (σ' : Hp) (h : va_D A (wsO ad ct σ)) : va_D A (wsO ad ct σ') := by
  have key : ∀ (i : Nat) (q : Nat × va_E), (wsO ad ct σ')[i]? = some q → ∃ q' : Nat × va_E, (wsO ad ct σ)[i]? = some q' ∧ q'.1 = q.1 := by
    intro i q hq
    simp only [wsO, List.getElem?_map] at hq ⊢
    cases hr : allR[i]? with
    | none => rw [hr] at hq; cases hq
    | some r =>
      rw [hr] at hq
      cases hq
      exact ⟨_, rfl, rfl⟩
  refine ⟨fun i j p q hi hj hpq => ?_, fun i q hi => ?_⟩
  · obtain ⟨p', h1, h2⟩ := key i p hi
    obtain ⟨q', h3, h4⟩ := key j q hj
    exact h.1 i j p' q' h1 h3 (by rw [h2, h4, hpq])
  · obtain ⟨q', h1, h2⟩ := key i q hi
    rw [← h2]
    exact h.2 i q' h1
theorem wsO_A {ad : Nat → Nat → Nat} {ct : CT} {σ σ' : Hp} {sz q : Nat} (h : va_A (wsO ad ct σ') sz q) : va_A (wsO ad ct σ) sz q := by
  rcases h with ⟨k, e, h⟩ | h
  · simp only [wsO, List.getElem?_map] at h
    cases hr : allR[k]? with
    | none => rw [hr] at h; cases h
    | some r =>
      rw [hr] at h
      cases h
      exact Or.inl ⟨k, cellO ad ct σ r.1 r.2, by simp [wsO, hr]⟩
  · exact Or.inr h
def rmY (y : Nat) : Room := { frames := (mI y).2.2.2.2.1, cells := 0, slots := 0, locals := (mI y).2.2.2.2.2 }
def PcY (D : va_G) (ad : Nat → Nat → Nat) (ct : CT) (σ : Hp) (vs : List PV) (sz : Nat) : Array Value → State → Prop := va_Pc (vs.map (trV ad)) (fun U => U.heap.size = sz ∧ va_P D vwCl (wsO ad ct σ) U.heap ∧ va_K D vwCl (tysO ct) U ∧ va_D (fun _ => True) (wsO ad ct σ) ∧ Ex ad U (va_A (wsO ad ct σ) sz) σ)
def PoY (D : va_G) (ad : Nat → Nat → Nat) (ct : CT) (r : Option PV) (σ' : Hp) (v : Option Value) (t : State) : Prop := v = r.map (trV ad) ∧ va_P D vwCl (wsO ad ct σ') t.heap ∧ va_K D vwCl (tysO ct) t ∧ ∀ x, r = some x → okV x
def QcY (D : va_G) (ad : Nat → Nat → Nat) (ct : CT) (A : Nat → Prop) (r : Option PV) (σ' : Hp) : Array Value → State → Outcome → State → Prop := fun _ st oc t => (∃ v : Option Value, oc = .returned v ∧ PoY D ad ct r σ' v t) ∧ va_F A st t
theorem Ex.moved {ad : Nat → Nat → Nat} {s U : State} {A B : Nat → Prop} {σ : Hp} {H : Heap} (h : Ex ad s A σ) (hvm : s.vm.Alike U.vm) (hU : U.heap = H) (hsz : s.heap.size ≤ H.size) (hk : ∀ q : Nat, q < s.heap.size → ¬ A q → H[q]? = s.heap[q]?) (hAB : ∀ q, B q → A q) : Ex ad U B σ := by
  obtain ⟨h1, h2, h5, h6, h7⟩ := h
  subst hU
  exact ⟨((h1.kept hk).moved hvm).narrow hAB, ((h2.kept hk).moved hvm).narrow hAB, (h5.kept (hk _ h6 h7)).moved hvm, by omega, fun q => h7 (hAB _ q)⟩
section SIM
variable {p : Program} {l : Launch} {e : Env} {R : Room} {s : State} {m : MethodId} {args : Array Value} {below : List Frame} {meth : Method} {c : Code} {H : Heap} {locs : List Loc} {cells slots : Nat} {Q : State → Prop}
variable {D : va_G} {ad : Nat → Nat → Nat} {ct : CT} {A : Nat → Prop} {y : Nat} {σ σ' : Hp} {ls ls' : Lc} {stk stk' : List PV} {LS : Array Slot} {pc pc' nxt a b : Nat} {sw : List Nat} {v : Int32} {l0 : Int64}
variable {rest st0 : List Value} {a1 : Array Value} {A0 A1 : Nat → Prop} {H0 : Heap} {mc ms : Nat} {free : Addr → Prop} {LL : Array Slot}
theorem va_callP {post : Option Value → State → Prop} (hr : va_Run p l e R s m args below meth c H locs cells slots mc ms (F0 m pc LL st0) rest (fun st oc t => (∃ v : Option Value, oc = .returned v ∧ post v t) ∧ va_F A1 st t) free) (hS : va_S A0 H0 H locs) (hA : ∀ q, q < H.size → A1 q → A0 q) (hf : ∀ q, free q → A0 q)
    (kk : ∀ (v : Option Value) (t : State) (H1 : Heap) (locs1 : List Loc), t.heap = H1 → s.vm.Alike t.vm → post v t → H.size ≤ H1.size → va_S A0 H0 H1 locs1 → W p l e R s m args below meth c H1 locs1 (cells + mc) (slots + ms) Q (F0 m (pc + 3) LL (v.toList ++ rest))) : W p l e R s m args below meth c H locs cells slots Q (F0 m pc LL st0) := by
  intro T hT X
  obtain ⟨v, st₀, t, T', L, h0, X', hL, e1, e2, ⟨⟨v', hv, hp⟩, hz, hk⟩, st⟩ := hr T hT X
  cases hv
  rw [h0] at hz hk
  obtain ⟨t2, a1, b1⟩ := kk v t T'.heap (locs ++ L) e1.symm (by rw [← e2]; exact X'.warmed.alike) hp (by rw [e1]; exact hz)
    ⟨Nat.le_trans hS.1 (by rw [e1]; exact hz), fun q h1 h2 => by rw [e1, hk q (Nat.lt_of_lt_of_le h1 hS.1) (fun z => h2 (hA q (Nat.lt_of_lt_of_le h1 hS.1) z))]; exact hS.2.1 q h1 h2, fun q hq => by
      rcases List.mem_append.mp hq with h | h
      · exact hS.2.2 q h
      · exact hf _ (hL q h)⟩ T' rfl X'
  exact ⟨t2, st t2 a1, b1⟩
end SIM
