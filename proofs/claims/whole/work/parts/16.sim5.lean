/-! What is known of each method; its entry. -/
theorem vwT_ok : vwT.all (fun q => decide (lw_tbl[q.2.1]? = some (.instanceMethod (mY q.1)) ∧ lw_tbl[q.2.2.1]? = some (.selects (mY q.1).cls (mY q.1) (mY q.1)) ∧ lw_tbl[q.2.2.2.1]? = some (.initialized (mY q.1).cls) ∧ lw_tbl[q.2.2.2.2]? = some (cdW q.1) ∧ (mY q.1).cls = oN (cn q.1).2.1 ∧ (mI q.1).2.2.2.1 = (cn q.1).2.1) && dsc q.1 ((cn q.1).1 - 1)) = true := by
  rw [vwT_eq]
  simp only [List.all_append, vwT_0_ok, vwT_11_ok, vwT_22_ok, vwT_33_ok, vwT_44_ok, vwT_55_ok, vwT_66_ok, vwT_77_ok, vwT_88_ok, vwT_99_ok, vwT_110_ok, vwT_121_ok, Bool.and_self]
theorem csT_sw : csT.all (fun q => swT_.any (fun z => nbeq z.1 q.2.2.1)) = true := by decide +kernel
theorem cvT_vw : cvT.all (fun q => vwT.any (fun z => nbeq z.1 q.2.2.1 && Nat.blt (cn z.1).2.1 7 && Nat.blt 0 (cn z.1).1)) = true := by decide +kernel
theorem own_ok : (List.range 160).all (fun y => decide ((mY y).cls = oN (mI y).2.2.2.1) && plainName (mY y).cls) = true := by decide +kernel
theorem own_at {y : Nat} (h : y < 160) : (mY y).cls = oN (mI y).2.2.2.1 ∧ plainName (mY y).cls = true := by
  have h1 := List.all_eq_true.mp own_ok y (List.mem_range.mpr h)
  simp only [Bool.and_eq_true] at h1
  exact ⟨of_decide_eq_true h1.1, h1.2⟩
theorem st_fact {o i a : Nat} (h : csT.any (fun q => nbeq q.1 o && nbeq q.2.1 i && nbeq q.2.2.1 a) = true) : Cond.static (mY a) ∈ WL ∧ Cond.initialized (mY a).cls ∈ WL ∧ cdW a ∈ WL ∧ dsc a (cn a).1 = true ∧ a < 160 := by
  obtain ⟨q, hq, h1⟩ := List.any_eq_true.mp h
  simp only [Bool.and_eq_true] at h1
  have h2 := List.all_eq_true.mp csT_sw q hq
  obtain ⟨z, hz, h3⟩ := List.any_eq_true.mp h2
  have h4 := List.all_eq_true.mp swT_ok z hz
  simp only [Bool.and_eq_true] at h4
  have e1 := nb h1.2
  have e2 := nb h3
  rw [e1] at e2
  rw [e2] at h4
  obtain ⟨w1, w2, w3⟩ := of_decide_eq_true h4.1
  refine ⟨WL_of w1 rfl, WL_of w2 rfl, WL_of w3 rfl, h4.2, ?_⟩
  have h5 : swT_.all (fun z => Nat.blt z.1 160) = true := by decide +kernel
  have h6 := List.all_eq_true.mp h5 z hz
  rw [e2] at h6
  simpa using h6
theorem vi_fact {o i a : Nat} (h : cvT.any (fun q => nbeq q.1 o && nbeq q.2.1 i && nbeq q.2.2.1 a) = true) : Cond.instanceMethod (mY a) ∈ WL ∧ Cond.selects (mY a).cls (mY a) (mY a) ∈ WL ∧ Cond.initialized (mY a).cls ∈ WL ∧ cdW a ∈ WL ∧ dsc a ((cn a).1 - 1) = true ∧ (mY a).cls = oN (cn a).2.1 ∧ (cn a).2.1 < 7 ∧ 0 < (cn a).1 ∧ a < 160 := by
  obtain ⟨q, hq, h1⟩ := List.any_eq_true.mp h
  simp only [Bool.and_eq_true] at h1
  have h2 := List.all_eq_true.mp cvT_vw q hq
  obtain ⟨z, hz, h3⟩ := List.any_eq_true.mp h2
  have h4 := List.all_eq_true.mp vwT_ok z hz
  simp only [Bool.and_eq_true] at h3 h4
  obtain ⟨⟨h31, h32⟩, h33⟩ := h3
  have e1 := nb h1.2
  have e2 := nb h31
  rw [e1] at e2
  rw [e2] at h4 h32 h33
  obtain ⟨w1, w2, w3, w4, w5, w6⟩ := of_decide_eq_true h4.1
  refine ⟨WL_of w1 rfl, WL_of w2 rfl, WL_of w3 rfl, WL_of w4 rfl, h4.2, w5, by simpa using h32, by simpa using h33, ?_⟩
  have h5 : vwT.all (fun z => Nat.blt z.1 160) = true := by decide +kernel
  have h6 := List.all_eq_true.mp h5 z hz
  rw [e2] at h6
  simpa using h6
theorem lvargs_mem (ad : Nat → Nat → Nat) : ∀ (vs : List PV) (i k : Nat) (v : PV), (entA vs)[k]? = some (some v) → (i + k, trV ad v) ∈ lv_args i (vs.map (trV ad))
  | [], i, k, v, h => by simp [entA] at h
  | .inl x :: vs, i, k, v, h => by
    show _ ∈ (i, trV ad (.inl x)) :: lv_args (if (trV ad (.inl x)).category = 2 then i + 2 else i + 1) (vs.map (trV ad))
    rw [if_neg (by rw [trV_cat]; simp [catP])]
    cases k with
    | zero =>
      simp only [entA, List.getElem?_cons_zero, Option.some.injEq] at h
      rw [← h]
      exact List.mem_cons_self
    | succ k =>
      simp only [entA, List.getElem?_cons_succ] at h
      have := lvargs_mem ad vs (i + 1) k v h
      rw [show i + (k + 1) = i + 1 + k by omega]
      exact List.mem_cons_of_mem _ this
  | .inr (.inr x) :: vs, i, k, v, h => by
    show _ ∈ (i, trV ad (.inr (.inr x))) :: lv_args (if (trV ad (.inr (.inr x))).category = 2 then i + 2 else i + 1) (vs.map (trV ad))
    rw [if_neg (by rw [trV_cat]; simp [catP])]
    cases k with
    | zero =>
      simp only [entA, List.getElem?_cons_zero, Option.some.injEq] at h
      rw [← h]
      exact List.mem_cons_self
    | succ k =>
      simp only [entA, List.getElem?_cons_succ] at h
      have := lvargs_mem ad vs (i + 1) k v h
      rw [show i + (k + 1) = i + 1 + k by omega]
      exact List.mem_cons_of_mem _ this
  | .inr (.inl x) :: vs, i, k, v, h => by
    show _ ∈ (i, trV ad (.inr (.inl x))) :: lv_args (if (trV ad (.inr (.inl x))).category = 2 then i + 2 else i + 1) (vs.map (trV ad))
    rw [if_pos (by rw [trV_cat]; rfl)]
    match k, h with
    | 0, h =>
      simp only [entA, List.getElem?_cons_zero, Option.some.injEq] at h
      rw [← h]
      exact List.mem_cons_self
    | 1, h => simp [entA] at h
    | k + 2, h =>
      simp only [entA, List.getElem?_cons_succ] at h
      have := lvargs_mem ad vs (i + 2) k v h
      rw [show i + (k + 2) = i + 2 + k by omega]
      exact List.mem_cons_of_mem _ this
theorem lgsl_len (ad : Nat → Nat → Nat) : ∀ (vs : List PV), (lg_sl (vs.map (trV ad))).length = (entA vs).length
  | [] => rfl
  | .inl x :: vs => by
    have := lgsl_len ad vs
    simp only [lg_sl, List.map_cons, List.flatMap_cons, List.length_append, entA, List.length_cons] at this ⊢
    rw [this, if_neg (by rw [trV_cat]; simp [catP])]
    simp
    omega
  | .inr (.inr x) :: vs => by
    have := lgsl_len ad vs
    simp only [lg_sl, List.map_cons, List.flatMap_cons, List.length_append, entA, List.length_cons] at this ⊢
    rw [this, if_neg (by rw [trV_cat]; simp [catP])]
    simp
    omega
  | .inr (.inl x) :: vs => by
    have := lgsl_len ad vs
    simp only [lg_sl, List.map_cons, List.flatMap_cons, List.length_append, entA, List.length_cons] at this ⊢
    rw [this, if_pos (by rw [trV_cat]; rfl)]
    simp
    omega
theorem entA_ok : ∀ (vs : List PV), okS vs → okL (entA vs)
  | [], _ => by intro k v h; simp [entA] at h
  | .inl x :: vs, h => by
    intro k v hk
    cases k with
    | zero => simp only [entA, List.getElem?_cons_zero, Option.some.injEq] at hk; rw [← hk]; trivial
    | succ k => exact entA_ok vs h.tl k v (by simpa [entA] using hk)
  | .inr (.inr x) :: vs, h => by
    intro k v hk
    cases k with
    | zero => simp only [entA, List.getElem?_cons_zero, Option.some.injEq] at hk; rw [← hk]; exact h.hd
    | succ k => exact entA_ok vs h.tl k v (by simpa [entA] using hk)
  | .inr (.inl x) :: vs, h => by
    intro k v hk
    match k, hk with
    | 0, hk => simp only [entA, List.getElem?_cons_zero, Option.some.injEq] at hk; rw [← hk]; trivial
    | 1, hk => simp [entA] at hk
    | k + 2, hk => exact entA_ok vs h.tl k v (by simpa [entA] using hk)
theorem ent_at {y k : Nat} {vs : List PV} {v : PV} (h : (ent y vs)[k]? = some (some v)) : (entA vs)[k]? = some (some v) := by
  unfold ent at h
  rw [List.getElem?_append] at h
  split at h
  · exact h
  · rw [List.getElem?_replicate] at h
    split at h <;> cases h
theorem ent_ok {y : Nat} {vs : List PV} (h : okS vs) : okL (ent y vs) := fun k v hk => entA_ok vs h k v (ent_at hk)
theorem ent_len {y : Nat} {vs : List PV} (h : (entA vs).length ≤ (mI y).2.1) : (ent y vs).length = (mI y).2.1 := by
  unfold ent
  simp
  omega
/-- how a method's return looks -/
def RetOK (y : Nat) (r : Option PV) (pcr : Nat) : Prop := match r with
  | some (.inl x) => decode (mI y).1 pcr = .ok (.ireturn, 1) ∧ ((mI y).2.2.1 = some .int ∨ ((mI y).2.2.1 = some .boolean ∧ zOk x))
  | some (.inr (.inl _)) => decode (mI y).1 pcr = .ok (.lreturn, 1) ∧ (mI y).2.2.1 = some .long
  | some (.inr (.inr _)) => decode (mI y).1 pcr = .ok (.areturn, 1) ∧ (mI y).2.2.1 = some (.object "ThreeGaps$Items")
  | none => decode (mI y).1 pcr = .ok (.return_, 1) ∧ (mI y).2.2.1 = none
set_option maxHeartbeats 4000000 in
theorem ret_inv {y pc nxt a b : Nat} {I : Jvm.ClassFile.Instr} {σ : Hp} {ls : Lc} {stk : List PV} {sw : List Nat} {v : Int32} {l0 : Int64} {r : Option PV} (hc : chkD (mI y).1 y (pc, I, nxt, a, b, sw, v, l0) = true) (hx : xexec cn y (pc, I, nxt, a, b, sw, v, l0) ls stk σ = some (.inr (.inr r))) : RetOK y r pc ∧ stk = r.toList := by
  simp only [chkD, Bool.and_eq_true] at hc
  obtain ⟨hd0, hn0, hk⟩ := hc
  have hd := of_decide_eq_true hd0
  clear hd0 hn0
  cases I
  case ireturn =>
    simp only [xexec] at hx
    simp only [chk] at hk
    split at hx
    · next x =>
      cases hb : (cn y).2.2 with
      | false =>
        rw [hb] at hx hk
        cases hx
        exact ⟨⟨hd, Or.inl (of_decide_eq_true hk)⟩, rfl⟩
      | true =>
        rw [hb] at hx hk
        simp only at hx
        split at hx
        · next hz =>
          cases hx
          exact ⟨⟨hd, Or.inr ⟨of_decide_eq_true hk, hz⟩⟩, rfl⟩
        · cases hx
    · cases hx
  case lreturn =>
    simp only [xexec] at hx
    split at hx
    · cases hx
      exact ⟨⟨hd, of_decide_eq_true hk⟩, rfl⟩
    · cases hx
  case areturn =>
    simp only [xexec] at hx
    split at hx
    · cases hx
      exact ⟨⟨hd, of_decide_eq_true hk⟩, rfl⟩
    · cases hx
  case return_ =>
    simp only [xexec] at hx
    split at hx
    · cases hx
      exact ⟨⟨hd, of_decide_eq_true hk⟩, rfl⟩
    · cases hx
  all_goals exfalso
  all_goals first
    | (cases hx; done)
    | (simp only [xexec, xload, xstore, xii, xll, xdiv, xldiv, xget, xput, xald, xzld, xqld, xast, xzst, xalen, xcpy, xcall, nx, bIf] at hx
       repeat' (split at hx)
       all_goals (first | (cases hx; done) | (simp at hx; done) | contradiction))
theorem xcall_inv {nxt a n y' nxt' : Nat} {stk vs rest : List PV} (h : xcall nxt a n stk = some (.inr (.inl (y', vs, rest, nxt')))) : y' = a ∧ nxt' = nxt ∧ stk = vs.reverse ++ rest ∧ vs.length = n ∧ wds rest ≤ 8 := by
  unfold xcall at h
  obtain ⟨h1, h2⟩ := bIf_inv h
  simp only [Bool.and_eq_true] at h1
  have h3 := Nat.le_of_ble_eq_true h1.1
  have h4 := Nat.le_of_ble_eq_true h1.2
  cases h2
  exact ⟨rfl, rfl, by simp, by simp; omega, h4⟩
set_option maxHeartbeats 4000000 in
theorem call_inv {y pc nxt a b : Nat} {I : Jvm.ClassFile.Instr} {σ : Hp} {ls : Lc} {stk : List PV} {sw : List Nat} {v : Int32} {l0 : Int64} {y' nxt' : Nat} {vs rest : List PV} (hx : xexec cn y (pc, I, nxt, a, b, sw, v, l0) ls stk σ = some (.inr (.inl (y', vs, rest, nxt')))) :
    (y' = a ∧ nxt' = nxt ∧ stk = vs.reverse ++ rest ∧ vs.length = (cn a).1 ∧ wds rest ≤ 8) ∧ ((∃ i, I = .invokestatic i ∧ b = 0) ∨ (∃ i kd ix tl, I = .invokevirtual i ∧ stk.drop ((cn a).1 - 1) = .inr (.inr (kd, ix)) :: tl ∧ kd = (cn a).2.1)) := by
  cases I
  case invokestatic i =>
    simp only [xexec] at hx
    split at hx
    · exact ⟨xcall_inv hx, Or.inl ⟨i, rfl, rfl⟩⟩
    all_goals exfalso
    all_goals (try simp only [xcpy, nx, bIf] at hx)
    all_goals (repeat' (split at hx))
    all_goals (first | (cases hx; done) | (simp at hx; done) | contradiction)
  case invokevirtual i =>
    simp only [xexec] at hx
    split at hx
    · next kd ix tl hdr =>
      obtain ⟨h1, h2⟩ := bIf_inv hx
      exact ⟨xcall_inv h2, Or.inr ⟨i, kd, ix, tl, rfl, hdr, Nat.eq_of_beq_eq_true h1⟩⟩
    · cases hx
  all_goals exfalso
  all_goals first
    | (cases hx; done)
    | (simp only [xexec, xload, xstore, xii, xll, xdiv, xldiv, xget, xput, xald, xzld, xqld, xast, xzst, xalen, xcpy, xcall, nx, bIf] at hx
       repeat' (split at hx)
       all_goals (first | (cases hx; done) | (simp at hx; done) | contradiction))
