/-! Every step of the small machine that stays in its frame. -/
theorem fac_link : Cond.fieldLink (oN 5) 230 "ThreeGaps" "FACTORIALS" "[I" ∈ WL := by decide +kernel
theorem sw_at {pc : Int} {offs : List Int} {sw : List Nat} (h : offs.map (fun o => pc + o) = sw.map (fun (t : Nat) => (t : Int))) {i : Nat} (hi : i < sw.length) : ∃ of : Int, offs[i]? = some of ∧ pc + of = ((sw[i] : Nat) : Int) := by
  have h1 : (offs.map (fun o => pc + o))[i]? = (sw.map (fun (t : Nat) => (t : Int)))[i]? := by rw [h]
  rw [List.getElem?_map, List.getElem?_map, List.getElem?_eq_getElem hi] at h1
  cases h2 : offs[i]? with
  | none => rw [h2] at h1; cases h1
  | some of =>
    rw [h2] at h1
    simp only [Option.map_some, Option.some.injEq] at h1
    exact ⟨of, rfl, h1⟩
theorem lk_at {pc d : Int} {a : Nat} (x : Int32) (ha : pc + d = (a : Int)) : ∀ (ps : List (Int × Int)) (sw : List Nat), ps.map (fun o => pc + o.2) = sw.map (fun (t : Nat) => (t : Int)) → pc + Op.lookupswitch.offset ps d x.toInt = ((lkT x ps sw a : Nat) : Int)
  | [], [], _ => ha
  | [], t :: ts, h => by cases h
  | q :: ps, [], h => by cases h
  | (k, o) :: ps, t :: ts, h => by
    simp only [List.map_cons, List.cons.injEq] at h
    rw [Op.lookupswitch.offset_cons]
    unfold lkT
    by_cases hk : k = x.toInt
    · rw [if_pos hk, if_pos hk.symm]
      exact h.1
    · rw [if_neg hk, if_neg (fun q => hk q.symm)]
      exact lk_at x ha ps ts h.2
section SIM
variable {p : Program} {l : Launch} {e : Env} {R : Room} {s : State} {m : MethodId} {args : Array Value} {below : List Frame} {meth : Method} {c : Code} {H : Heap} {locs : List Loc} {cells slots : Nat} {Q : State → Prop}
variable {D : va_G} {ad : Nat → Nat → Nat} {ct : CT} {A : Nat → Prop} {y : Nat} {σ σ' : Hp} {ls ls' : Lc} {stk stk' : List PV} {LS : Array Slot} {pc pc' nxt a b : Nat} {sw : List Nat} {v : Int32} {l0 : Int64}
set_option maxHeartbeats 4000000 in
set_option maxRecDepth 100000 in
theorem sim1 {I : Jvm.ClassFile.Instr} (hc : chkD (mI y).1 y (pc, I, nxt, a, b, sw, v, l0) = true) (C : Cx D ct y p s m args c) (hR : (mI y).2.2.2.2.1 ≤ R.frames ∧ (mI y).2.2.2.2.2 ≤ R.locals ∧ cells ≤ R.cells ∧ slots ≤ R.slots) (hw : Wd D ad ct s A σ H locs) (hl : Lr ad (mI y).2.1 LS ls) (hs : okS stk) (ho : okL ls)
    (hx : xexec cn y (pc, I, nxt, a, b, sw, v, l0) ls stk σ = some (.inl (pc', ls', stk', σ'))) (k : KN p l e R s m args below meth c cells slots Q D ad ct A y pc' ls' stk' σ') : W p l e R s m args below meth c H locs cells slots Q (F0 m pc LS (stk.map (trV ad))) := by
  simp only [chkD, Bool.and_eq_true] at hc
  obtain ⟨hd0, hn0, hk⟩ := hc
  have hd := of_decide_eq_true hd0
  have hn := nb hn0
  clear hd0 hn0
  obtain ⟨hR1, hR2, hR3, hR4⟩ := id hR
  cases I
  case iconst n =>
    have hn : nxt = pc + 1 := hn
    subst hn
    obtain ⟨rfl, rfl, rfl, rfl⟩ := nx_inv hx
    exact lv_iconst C.1 C.2.1 hd (of_decide_eq_true hk) (k H locs LS hw hl (okS.i hs) ho)
  case bipush n =>
    have hn : nxt = pc + 2 := hn
    subst hn
    obtain ⟨rfl, rfl, rfl, rfl⟩ := nx_inv hx
    exact lv_bipush C.1 C.2.1 hd (of_decide_eq_true hk) (k H locs LS hw hl (okS.i hs) ho)
  case sipush n =>
    have hn : nxt = pc + 3 := hn
    subst hn
    obtain ⟨rfl, rfl, rfl, rfl⟩ := nx_inv hx
    exact lv_sipush C.1 C.2.1 hd (of_decide_eq_true hk) (k H locs LS hw hl (okS.i hs) ho)
  case lconst n =>
    have hn : nxt = pc + 1 := hn
    subst hn
    obtain ⟨rfl, rfl, rfl, rfl⟩ := nx_inv hx
    exact lv_lconst C.1 C.2.1 hd (of_decide_eq_true hk) (k H locs LS hw hl (okS.l hs) ho)
  case ldc i =>
    have hn : nxt = pc + 2 := hn
    subst hn
    obtain ⟨rfl, rfl, rfl, rfl⟩ := nx_inv hx
    exact lv_ldc C.1 C.2.1 C.2.2.2.1 (C.2.2.2.2.1 _ (w_cI hk)) hd (k H locs LS hw hl (okS.i hs) ho)
  case ldc_w i =>
    have hn : nxt = pc + 3 := hn
    subst hn
    obtain ⟨rfl, rfl, rfl, rfl⟩ := nx_inv hx
    exact lv_ldcw C.1 C.2.1 C.2.2.2.1 (C.2.2.2.2.1 _ (w_cI hk)) hd (k H locs LS hw hl (okS.i hs) ho)
  case ldc2_w i =>
    have hn : nxt = pc + 3 := hn
    subst hn
    obtain ⟨rfl, rfl, rfl, rfl⟩ := nx_inv hx
    exact lv_ldc2 C.1 C.2.1 C.2.2.2.1 (C.2.2.2.2.1 _ (w_cJ hk)) hd (k H locs LS hw hl (okS.l hs) ho)
  case iload i =>
    have hn : nxt = pc + 2 := hn
    subst hn
    obtain ⟨x, h1, rfl, rfl, rfl, rfl⟩ := xloadI hx
    have hk5 := nb hk
    clear hk
    subst hk5
    exact lv_iload C.1 C.2.1 hd (hl.2.2 _ _ h1) (k H locs LS hw hl (okS.i hs) ho)
  case iload_n i =>
    have hn : nxt = pc + 1 := hn
    subst hn
    obtain ⟨x, h1, rfl, rfl, rfl, rfl⟩ := xloadI hx
    have hk5 := nb hk
    clear hk
    subst hk5
    exact lv_iload_n C.1 C.2.1 hd rfl (hl.2.2 _ _ h1) (k H locs LS hw hl (okS.i hs) ho)
  case lload i =>
    have hn : nxt = pc + 2 := hn
    subst hn
    obtain ⟨x, h1, rfl, rfl, rfl, rfl⟩ := xloadL hx
    have hk5 := nb hk
    clear hk
    subst hk5
    exact lv_lload C.1 C.2.1 hd (hl.2.2 _ _ h1) (k H locs LS hw hl (okS.l hs) ho)
  case lload_n i =>
    have hn : nxt = pc + 1 := hn
    subst hn
    obtain ⟨x, h1, rfl, rfl, rfl, rfl⟩ := xloadL hx
    have hk5 := nb hk
    clear hk
    subst hk5
    exact lv_lload_n C.1 C.2.1 hd rfl (hl.2.2 _ _ h1) (k H locs LS hw hl (okS.l hs) ho)
  case aload i =>
    have hn : nxt = pc + 2 := hn
    subst hn
    obtain ⟨⟨x1, x2⟩, h1, rfl, rfl, rfl, rfl⟩ := xloadR hx
    have hk5 := nb hk
    clear hk
    subst hk5
    exact lv_aload C.1 C.2.1 hd (hl.2.2 _ _ h1) (k H locs LS hw hl (okS.cons (ho _ _ h1) hs) ho)
  case aload_n i =>
    have hn : nxt = pc + 1 := hn
    subst hn
    obtain ⟨⟨x1, x2⟩, h1, rfl, rfl, rfl, rfl⟩ := xloadR hx
    have hk5 := nb hk
    clear hk
    subst hk5
    exact lv_aload_n C.1 C.2.1 hd rfl (hl.2.2 _ _ h1) (k H locs LS hw hl (okS.cons (ho _ _ h1) hs) ho)
  case istore i =>
    have hn : nxt = pc + 2 := hn
    subst hn
    obtain ⟨x, r, rfl, h1, h2, rfl, rfl, rfl, rfl⟩ := xstoreI hx
    have hk5 := nb hk
    clear hk
    subst hk5
    refine lv_istore C.1 C.2.1 hd hl.has (by rw [← hl.1.2]; exact h2) rfl (fun LS' h' => ?_)
    exact k H locs LS' hw (Lr.of1 (x := .inl x) hl.1.2 h1 h') (okS.tl hs) (ho.set (fun w hq => by cases hq; exact trivial))
  case istore_n i =>
    have hn : nxt = pc + 1 := hn
    subst hn
    obtain ⟨x, r, rfl, h1, h2, rfl, rfl, rfl, rfl⟩ := xstoreI hx
    have hk5 := nb hk
    clear hk
    subst hk5
    refine lv_istore_n C.1 C.2.1 hd rfl hl.has (by rw [← hl.1.2]; exact h2) rfl (fun LS' h' => ?_)
    exact k H locs LS' hw (Lr.of1 (x := .inl x) hl.1.2 h1 h') (okS.tl hs) (ho.set (fun w hq => by cases hq; exact trivial))
  case astore i =>
    have hn : nxt = pc + 2 := hn
    subst hn
    obtain ⟨⟨x1, x2⟩, r, rfl, h1, h2, rfl, rfl, rfl, rfl⟩ := xstoreR hx
    have hk5 := nb hk
    clear hk
    subst hk5
    refine lv_astore C.1 C.2.1 hd hl.has (by rw [← hl.1.2]; exact h2) rfl (fun LS' h' => ?_)
    exact k H locs LS' hw (Lr.of1 (x := .inr (.inr (x1, x2))) hl.1.2 h1 h') (okS.tl hs) (ho.set (fun w hq => by cases hq; exact okS.hd hs))
  case astore_n i =>
    have hn : nxt = pc + 1 := hn
    subst hn
    obtain ⟨⟨x1, x2⟩, r, rfl, h1, h2, rfl, rfl, rfl, rfl⟩ := xstoreR hx
    have hk5 := nb hk
    clear hk
    subst hk5
    refine lv_astore_n C.1 C.2.1 hd rfl hl.has (by rw [← hl.1.2]; exact h2) rfl (fun LS' h' => ?_)
    exact k H locs LS' hw (Lr.of1 (x := .inr (.inr (x1, x2))) hl.1.2 h1 h') (okS.tl hs) (ho.set (fun w hq => by cases hq; exact okS.hd hs))
  case lstore i =>
    have hn : nxt = pc + 2 := hn
    subst hn
    obtain ⟨x, r, rfl, h1, h2, rfl, rfl, rfl, rfl⟩ := xstoreL hx
    have hk5 := nb hk
    clear hk
    subst hk5
    refine lv_lstore C.1 C.2.1 hd hl.has (by rw [← hl.1.2]; exact h2) rfl (fun LS' h' => ?_)
    exact k H locs LS' hw (Lr.of2 hl.1.2 h1 h') (okS.tl hs) ((ho.set (fun w hq => by cases hq; trivial)).set (fun w hq => by cases hq))
  case lstore_n i =>
    have hn : nxt = pc + 1 := hn
    subst hn
    obtain ⟨x, r, rfl, h1, h2, rfl, rfl, rfl, rfl⟩ := xstoreL hx
    have hk5 := nb hk
    clear hk
    subst hk5
    refine lv_lstore_n C.1 C.2.1 hd rfl hl.has (by rw [← hl.1.2]; exact h2) rfl (fun LS' h' => ?_)
    exact k H locs LS' hw (Lr.of2 hl.1.2 h1 h') (okS.tl hs) ((ho.set (fun w hq => by cases hq; trivial)).set (fun w hq => by cases hq))
  case iinc i n =>
    have hn : nxt = pc + 3 := hn
    subst hn
    have hk2 : nbeq i a = true ∧ decide (Int32.ofInt n = v) = true := by simpa [chk] using hk
    obtain ⟨hk3, hk4⟩ := hk2
    have hk3 := nb hk3
    subst hk3
    have hk4 := of_decide_eq_true hk4
    subst hk4
    simp only [xexec] at hx
    split at hx
    · next x h1 =>
      obtain ⟨h2, h3⟩ := bIf_inv hx
      obtain ⟨rfl, rfl, rfl, rfl⟩ := nx_inv h3
      simp only [Bool.and_eq_true, Nat.blt_eq] at h2
      obtain ⟨q, hq⟩ := List.getElem?_of_mem (asc_mem (ad := ad) (q := (i, trV ad (.inl x))).mpr ⟨.inl x, h1, rfl⟩)
      refine lv_iinc C.1 C.2.1 hd hl.has hq rfl (by rw [← hl.1.2]; exact h2.2) rfl (fun LS' h' => ?_)
      exact k H locs LS' hw (Lr.of1 (x := .inl (x + Int32.ofInt n)) hl.1.2 h2.1 h') hs (ho.set (fun w hq => by cases hq; trivial))
    · cases hx
  case iadd =>
    have hn : nxt = pc + 1 := hn
    subst hn
    obtain ⟨z, x, r, rfl, rfl, rfl, rfl, rfl⟩ := xiiI hx
    exact lv_iadd C.1 C.2.1 hd (k H locs LS hw hl (okS.i (okS.tl (okS.tl hs))) ho)
  case isub =>
    have hn : nxt = pc + 1 := hn
    subst hn
    obtain ⟨z, x, r, rfl, rfl, rfl, rfl, rfl⟩ := xiiI hx
    exact lv_isub C.1 C.2.1 hd (k H locs LS hw hl (okS.i (okS.tl (okS.tl hs))) ho)
  case imul =>
    have hn : nxt = pc + 1 := hn
    subst hn
    obtain ⟨z, x, r, rfl, rfl, rfl, rfl, rfl⟩ := xiiI hx
    exact lv_imul C.1 C.2.1 hd (k H locs LS hw hl (okS.i (okS.tl (okS.tl hs))) ho)
  case iand =>
    have hn : nxt = pc + 1 := hn
    subst hn
    obtain ⟨z, x, r, rfl, rfl, rfl, rfl, rfl⟩ := xiiI hx
    exact lv_iand C.1 C.2.1 hd (k H locs LS hw hl (okS.i (okS.tl (okS.tl hs))) ho)
  case ior =>
    have hn : nxt = pc + 1 := hn
    subst hn
    obtain ⟨z, x, r, rfl, rfl, rfl, rfl, rfl⟩ := xiiI hx
    exact lv_ior C.1 C.2.1 hd (k H locs LS hw hl (okS.i (okS.tl (okS.tl hs))) ho)
  case ixor =>
    have hn : nxt = pc + 1 := hn
    subst hn
    obtain ⟨z, x, r, rfl, rfl, rfl, rfl, rfl⟩ := xiiI hx
    exact lv_ixor C.1 C.2.1 hd (k H locs LS hw hl (okS.i (okS.tl (okS.tl hs))) ho)
  case ishl =>
    have hn : nxt = pc + 1 := hn
    subst hn
    obtain ⟨z, x, r, rfl, rfl, rfl, rfl, rfl⟩ := xiiI hx
    exact lv_ishl C.1 C.2.1 hd (k H locs LS hw hl (okS.i (okS.tl (okS.tl hs))) ho)
  case ishr =>
    have hn : nxt = pc + 1 := hn
    subst hn
    obtain ⟨z, x, r, rfl, rfl, rfl, rfl, rfl⟩ := xiiI hx
    exact lv_ishr C.1 C.2.1 hd (k H locs LS hw hl (okS.i (okS.tl (okS.tl hs))) ho)
  case iushr =>
    have hn : nxt = pc + 1 := hn
    subst hn
    obtain ⟨z, x, r, rfl, rfl, rfl, rfl, rfl⟩ := xiiI hx
    exact lv_iushr C.1 C.2.1 hd rfl (k H locs LS hw hl (okS.i (okS.tl (okS.tl hs))) ho)
  case idiv =>
    have hn : nxt = pc + 1 := hn
    subst hn
    obtain ⟨z, x, r, rfl, h1, rfl, rfl, rfl, rfl⟩ := xdivI hx
    exact lv_idiv C.1 C.2.1 hd h1 (k H locs LS hw hl (okS.i (okS.tl (okS.tl hs))) ho)
  case irem =>
    have hn : nxt = pc + 1 := hn
    subst hn
    obtain ⟨z, x, r, rfl, h1, rfl, rfl, rfl, rfl⟩ := xdivI hx
    exact lv_irem C.1 C.2.1 hd h1 (k H locs LS hw hl (okS.i (okS.tl (okS.tl hs))) ho)
  case ladd =>
    have hn : nxt = pc + 1 := hn
    subst hn
    obtain ⟨z, x, r, rfl, rfl, rfl, rfl, rfl⟩ := xllI hx
    exact lv_ladd C.1 C.2.1 hd (k H locs LS hw hl (okS.l (okS.tl (okS.tl hs))) ho)
  case lsub =>
    have hn : nxt = pc + 1 := hn
    subst hn
    obtain ⟨z, x, r, rfl, rfl, rfl, rfl, rfl⟩ := xllI hx
    exact lv_lsub C.1 C.2.1 hd (k H locs LS hw hl (okS.l (okS.tl (okS.tl hs))) ho)
  case lmul =>
    have hn : nxt = pc + 1 := hn
    subst hn
    obtain ⟨z, x, r, rfl, rfl, rfl, rfl, rfl⟩ := xllI hx
    exact lv_lmul C.1 C.2.1 hd (k H locs LS hw hl (okS.l (okS.tl (okS.tl hs))) ho)
  case land =>
    have hn : nxt = pc + 1 := hn
    subst hn
    obtain ⟨z, x, r, rfl, rfl, rfl, rfl, rfl⟩ := xllI hx
    exact lv_land C.1 C.2.1 hd (k H locs LS hw hl (okS.l (okS.tl (okS.tl hs))) ho)
  case lor =>
    have hn : nxt = pc + 1 := hn
    subst hn
    obtain ⟨z, x, r, rfl, rfl, rfl, rfl, rfl⟩ := xllI hx
    exact lv_lor C.1 C.2.1 hd (k H locs LS hw hl (okS.l (okS.tl (okS.tl hs))) ho)
  case ldiv =>
    have hn : nxt = pc + 1 := hn
    subst hn
    obtain ⟨z, x, r, rfl, h1, rfl, rfl, rfl, rfl⟩ := xldivI hx
    exact lv_ldiv C.1 C.2.1 hd h1 (k H locs LS hw hl (okS.l (okS.tl (okS.tl hs))) ho)
  case lrem =>
    have hn : nxt = pc + 1 := hn
    subst hn
    obtain ⟨z, x, r, rfl, h1, rfl, rfl, rfl, rfl⟩ := xldivI hx
    exact lv_lrem C.1 C.2.1 hd h1 (k H locs LS hw hl (okS.l (okS.tl (okS.tl hs))) ho)
  case ineg =>
    have hn : nxt = pc + 1 := hn
    subst hn
    simp only [xexec] at hx
    split at hx
    · next x r =>
      obtain ⟨rfl, rfl, rfl, rfl⟩ := nx_inv hx
      exact lv_ineg C.1 C.2.1 hd (k H locs LS hw hl (okS.i (okS.tl hs)) ho)
    · cases hx
  case i2l =>
    have hn : nxt = pc + 1 := hn
    subst hn
    simp only [xexec] at hx
    split at hx
    · next x r =>
      obtain ⟨rfl, rfl, rfl, rfl⟩ := nx_inv hx
      exact lv_i2l C.1 C.2.1 hd rfl (k H locs LS hw hl (okS.l (okS.tl hs)) ho)
    · cases hx
  case l2i =>
    have hn : nxt = pc + 1 := hn
    subst hn
    simp only [xexec] at hx
    split at hx
    · next x r =>
      obtain ⟨rfl, rfl, rfl, rfl⟩ := nx_inv hx
      exact lv_l2i C.1 C.2.1 hd rfl (k H locs LS hw hl (okS.i (okS.tl hs)) ho)
    · cases hx
  case lushr =>
    have hn : nxt = pc + 1 := hn
    subst hn
    simp only [xexec] at hx
    split at hx
    · next z x r =>
      obtain ⟨rfl, rfl, rfl, rfl⟩ := nx_inv hx
      exact lv_lushr C.1 C.2.1 hd rfl (k H locs LS hw hl (okS.l (okS.tl (okS.tl hs))) ho)
    · cases hx
  case lshl =>
    have hn : nxt = pc + 1 := hn
    subst hn
    simp only [xexec] at hx
    split at hx
    · next z x r =>
      obtain ⟨rfl, rfl, rfl, rfl⟩ := nx_inv hx
      exact lv_lshl C.1 C.2.1 hd rfl (k H locs LS hw hl (okS.l (okS.tl (okS.tl hs))) ho)
    · cases hx
  case lcmp =>
    have hn : nxt = pc + 1 := hn
    subst hn
    simp only [xexec] at hx
    split at hx
    · next z x r =>
      obtain ⟨rfl, rfl, rfl, rfl⟩ := nx_inv hx
      exact W.lcmp C.1 C.2.1 hd (k H locs LS hw hl (okS.i (okS.tl (okS.tl hs))) ho)
    · cases hx
  case pop =>
    have hn : nxt = pc + 1 := hn
    subst hn
    simp only [xexec] at hx
    split at hx
    · next x r =>
      obtain ⟨rfl, rfl, rfl, rfl⟩ := nx_inv hx
      exact lv_pop C.1 C.2.1 hd rfl (k H locs LS hw hl (okS.tl hs) ho)
    · cases hx
  case dup =>
    have hn : nxt = pc + 1 := hn
    subst hn
    simp only [xexec] at hx
    split at hx
    · next x r =>
      obtain ⟨rfl, rfl, rfl, rfl⟩ := nx_inv hx
      exact lv_dup C.1 C.2.1 hd rfl (k H locs LS hw hl (okS.i hs) ho)
    · next x r =>
      obtain ⟨rfl, rfl, rfl, rfl⟩ := nx_inv hx
      exact lv_dup C.1 C.2.1 hd rfl (k H locs LS hw hl (okS.cons (okS.hd hs) hs) ho)
    · cases hx
  case dup2 =>
    have hn : nxt = pc + 1 := hn
    subst hn
    simp only [xexec] at hx
    split at hx
    · next x z r =>
      obtain ⟨rfl, rfl, rfl, rfl⟩ := nx_inv hx
      exact lv_dup2_11 C.1 C.2.1 hd rfl rfl (k H locs LS hw hl (okS.i (okS.cons (okS.hd (okS.tl hs)) hs)) ho)
    · cases hx
  case goto off =>
    have hn : nxt = pc + 3 := hn
    subst hn
    obtain ⟨rfl, rfl, rfl, rfl⟩ := nx_inv hx
    exact lv_goto C.1 C.2.1 hd (of_decide_eq_true hk) (k H locs LS hw hl hs ho)
  case if_icmp cd off =>
    have hn : nxt = pc + 3 := hn
    subst hn
    have hk6 := of_decide_eq_true hk
    clear hk
    simp only [xexec] at hx
    split at hx
    · next z x r =>
      cases cd
      case eq =>
        split at hx
        · next hq =>
          obtain ⟨rfl, rfl, rfl, rfl⟩ := nx_inv hx
          exact lv_icmp_eq C.1 C.2.1 hd hk6 (fun _ => k H locs LS hw hl (okS.tl (okS.tl hs)) ho) (fun q => by first | exact absurd hq q | exact absurd q hq)
        · next hq =>
          obtain ⟨rfl, rfl, rfl, rfl⟩ := nx_inv hx
          exact lv_icmp_eq C.1 C.2.1 hd hk6 (fun q => by first | exact absurd q hq | exact absurd hq q) (fun _ => k H locs LS hw hl (okS.tl (okS.tl hs)) ho)
      case ne =>
        split at hx
        · next hq =>
          obtain ⟨rfl, rfl, rfl, rfl⟩ := nx_inv hx
          exact lv_icmp_ne C.1 C.2.1 hd hk6 (fun _ => k H locs LS hw hl (okS.tl (okS.tl hs)) ho) (fun q => by first | exact absurd hq q | exact absurd q hq)
        · next hq =>
          obtain ⟨rfl, rfl, rfl, rfl⟩ := nx_inv hx
          exact lv_icmp_ne C.1 C.2.1 hd hk6 (fun q => by first | exact absurd q hq | exact absurd hq q) (fun _ => k H locs LS hw hl (okS.tl (okS.tl hs)) ho)
      case lt =>
        split at hx
        · next hq =>
          obtain ⟨rfl, rfl, rfl, rfl⟩ := nx_inv hx
          exact lv_icmp_lt C.1 C.2.1 hd hk6 (fun _ => k H locs LS hw hl (okS.tl (okS.tl hs)) ho) (fun q => by first | exact absurd hq q | exact absurd q hq)
        · next hq =>
          obtain ⟨rfl, rfl, rfl, rfl⟩ := nx_inv hx
          exact lv_icmp_lt C.1 C.2.1 hd hk6 (fun q => by first | exact absurd q hq | exact absurd hq q) (fun _ => k H locs LS hw hl (okS.tl (okS.tl hs)) ho)
      case ge =>
        split at hx
        · next hq =>
          obtain ⟨rfl, rfl, rfl, rfl⟩ := nx_inv hx
          exact lv_icmp_ge C.1 C.2.1 hd hk6 (fun _ => k H locs LS hw hl (okS.tl (okS.tl hs)) ho) (fun q => by first | exact absurd hq q | exact absurd q hq)
        · next hq =>
          obtain ⟨rfl, rfl, rfl, rfl⟩ := nx_inv hx
          exact lv_icmp_ge C.1 C.2.1 hd hk6 (fun q => by first | exact absurd q hq | exact absurd hq q) (fun _ => k H locs LS hw hl (okS.tl (okS.tl hs)) ho)
      case gt =>
        split at hx
        · next hq =>
          obtain ⟨rfl, rfl, rfl, rfl⟩ := nx_inv hx
          exact lv_icmp_gt C.1 C.2.1 hd hk6 (fun _ => k H locs LS hw hl (okS.tl (okS.tl hs)) ho) (fun q => by first | exact absurd hq q | exact absurd q hq)
        · next hq =>
          obtain ⟨rfl, rfl, rfl, rfl⟩ := nx_inv hx
          exact lv_icmp_gt C.1 C.2.1 hd hk6 (fun q => by first | exact absurd q hq | exact absurd hq q) (fun _ => k H locs LS hw hl (okS.tl (okS.tl hs)) ho)
      case le =>
        split at hx
        · next hq =>
          obtain ⟨rfl, rfl, rfl, rfl⟩ := nx_inv hx
          exact lv_icmp_le C.1 C.2.1 hd hk6 (fun _ => k H locs LS hw hl (okS.tl (okS.tl hs)) ho) (fun q => by first | exact absurd hq q | exact absurd q hq)
        · next hq =>
          obtain ⟨rfl, rfl, rfl, rfl⟩ := nx_inv hx
          exact lv_icmp_le C.1 C.2.1 hd hk6 (fun q => by first | exact absurd q hq | exact absurd hq q) (fun _ => k H locs LS hw hl (okS.tl (okS.tl hs)) ho)
    · cases hx
  case ifCond cd off =>
    have hn : nxt = pc + 3 := hn
    subst hn
    have hk6 := of_decide_eq_true hk
    clear hk
    simp only [xexec] at hx
    split at hx
    · next x r =>
      cases cd
      case eq =>
        split at hx
        · next hq =>
          obtain ⟨rfl, rfl, rfl, rfl⟩ := nx_inv hx
          exact lv_if_eq C.1 C.2.1 hd hk6 (fun _ => k H locs LS hw hl (okS.tl hs) ho) (fun q => by first | exact absurd hq q | exact absurd q hq)
        · next hq =>
          obtain ⟨rfl, rfl, rfl, rfl⟩ := nx_inv hx
          exact lv_if_eq C.1 C.2.1 hd hk6 (fun q => by first | exact absurd q hq | exact absurd hq q) (fun _ => k H locs LS hw hl (okS.tl hs) ho)
      case ne =>
        split at hx
        · next hq =>
          obtain ⟨rfl, rfl, rfl, rfl⟩ := nx_inv hx
          exact lv_if_ne C.1 C.2.1 hd hk6 (fun _ => k H locs LS hw hl (okS.tl hs) ho) (fun q => by first | exact absurd hq q | exact absurd q hq)
        · next hq =>
          obtain ⟨rfl, rfl, rfl, rfl⟩ := nx_inv hx
          exact lv_if_ne C.1 C.2.1 hd hk6 (fun q => by first | exact absurd q hq | exact absurd hq q) (fun _ => k H locs LS hw hl (okS.tl hs) ho)
      case lt =>
        split at hx
        · next hq =>
          obtain ⟨rfl, rfl, rfl, rfl⟩ := nx_inv hx
          exact lv_if_lt C.1 C.2.1 hd hk6 (fun _ => k H locs LS hw hl (okS.tl hs) ho) (fun q => by first | exact absurd hq q | exact absurd q hq)
        · next hq =>
          obtain ⟨rfl, rfl, rfl, rfl⟩ := nx_inv hx
          exact lv_if_lt C.1 C.2.1 hd hk6 (fun q => by first | exact absurd q hq | exact absurd hq q) (fun _ => k H locs LS hw hl (okS.tl hs) ho)
      case ge =>
        split at hx
        · next hq =>
          obtain ⟨rfl, rfl, rfl, rfl⟩ := nx_inv hx
          exact lv_if_ge C.1 C.2.1 hd hk6 (fun _ => k H locs LS hw hl (okS.tl hs) ho) (fun q => by first | exact absurd hq q | exact absurd q hq)
        · next hq =>
          obtain ⟨rfl, rfl, rfl, rfl⟩ := nx_inv hx
          exact lv_if_ge C.1 C.2.1 hd hk6 (fun q => by first | exact absurd q hq | exact absurd hq q) (fun _ => k H locs LS hw hl (okS.tl hs) ho)
      case gt =>
        split at hx
        · next hq =>
          obtain ⟨rfl, rfl, rfl, rfl⟩ := nx_inv hx
          exact lv_if_gt C.1 C.2.1 hd hk6 (fun _ => k H locs LS hw hl (okS.tl hs) ho) (fun q => by first | exact absurd hq q | exact absurd q hq)
        · next hq =>
          obtain ⟨rfl, rfl, rfl, rfl⟩ := nx_inv hx
          exact lv_if_gt C.1 C.2.1 hd hk6 (fun q => by first | exact absurd q hq | exact absurd hq q) (fun _ => k H locs LS hw hl (okS.tl hs) ho)
      case le =>
        split at hx
        · next hq =>
          obtain ⟨rfl, rfl, rfl, rfl⟩ := nx_inv hx
          exact lv_if_le C.1 C.2.1 hd hk6 (fun _ => k H locs LS hw hl (okS.tl hs) ho) (fun q => by first | exact absurd hq q | exact absurd q hq)
        · next hq =>
          obtain ⟨rfl, rfl, rfl, rfl⟩ := nx_inv hx
          exact lv_if_le C.1 C.2.1 hd hk6 (fun q => by first | exact absurd q hq | exact absurd hq q) (fun _ => k H locs LS hw hl (okS.tl hs) ho)
    · cases hx
  case tableswitch d lo hi offs =>
    simp only [chk, Bool.and_eq_true] at hk
    obtain ⟨⟨hk1, hk2⟩, hk3⟩ := hk
    have hk1 := of_decide_eq_true hk1
    have hk2 := of_decide_eq_true hk2
    have hk3 := of_decide_eq_true hk3
    simp only [xexec] at hx
    split at hx
    · next x r =>
      obtain ⟨rfl, rfl, rfl, rfl⟩ := nx_inv hx
      have hkk := k H locs LS hw hl (okS.tl hs) ho
      by_cases hq : x.toInt < lo ∨ hi < x.toInt
      · rw [show swT x lo hi sw a = a from if_pos hq] at hkk
        exact lv_tableOut C.1 C.2.1 hd hq hk1 hkk
      · rw [show swT x lo hi sw a = sw.getD (x.toInt - lo).toNat a from if_neg hq] at hkk
        have hlt : (x.toInt - lo).toNat < sw.length := by omega
        obtain ⟨of, h1, h2⟩ := sw_at hk2 hlt
        rw [List.getD_eq_getElem?_getD, List.getElem?_eq_getElem hlt] at hkk
        refine lv_tableIn C.1 C.2.1 hd (fun h => hq (Or.inl h)) (fun h => hq (Or.inr h)) (off := of) (tgt := sw[(x.toInt - lo).toNat]) (by rw [← Array.getElem?_toList]; exact h1) h2 hkk
    · cases hx
  case lookupswitch d ps =>
    simp only [chk, Bool.and_eq_true] at hk
    obtain ⟨⟨hk1, hk2⟩, hk3⟩ := hk
    have hk1 := of_decide_eq_true hk1
    have hk2 := of_decide_eq_true hk2
    simp only [xexec] at hx
    split at hx
    · next x r =>
      obtain ⟨rfl, rfl, rfl, rfl⟩ := nx_inv hx
      have hkk := k H locs LS hw hl (okS.tl hs) ho
      exact lv_lookup C.1 C.2.1 hd hk3 rfl (lk_at x hk1 ps.toList sw hk2) hkk
    · cases hx
  case getfield i =>
    have hn : nxt = pc + 3 := hn
    subst hn
    obtain ⟨ix, r, fd, rfl, h1, rfl, rfl, rfl, rfl⟩ := xgetI hx
    exact s_get C hw hl ho hs h1 (w_fld hk) hd k
  case putfield i =>
    have hn : nxt = pc + 3 := hn
    subst hn
    simp only [chk, Bool.and_eq_true] at hk
    obtain ⟨hk1, hk2⟩ := hk
    have hk2 := of_decide_eq_true hk2
    have hk1 := w_fld (by simpa only [Bool.and_eq_true] using hk1)
    rcases xputI hx with ⟨x, ix, r, rfl, h1, h2, rfl, rfl, rfl, rfl⟩ | ⟨x, ix, r, rfl, h1, rfl, rfl, rfl, rfl⟩
    · exact s_putI C hw hl ho hs h1 h2 hk1 hk2 hd k
    · exact s_putL C hw hl ho hs h1 hk1 hk2 hd k
  case getstatic i =>
    have hn : nxt = pc + 3 := hn
    subst hn
    simp only [chk, Bool.and_eq_true] at hk
    obtain ⟨hk1, hk2⟩ := hk
    have hk1 := nb hk1
    have hk2 := nb hk2
    subst hk2
    obtain ⟨rfl, rfl, rfl, rfl⟩ := nx_inv hx
    have hown := C.2.2.2.1
    rw [hk1] at hown
    exact va_gets C.1 C.2.1 hw.2.2.2.1 hw.2.2.1 hown (C.2.2.2.2.1 _ fac_link) (fun _ h => h) hd (k H locs LS hw hl (okS.cons (Or.inr (Or.inl rfl)) hs) ho)
  case iaload =>
    have hn : nxt = pc + 1 := hn
    subst hn
    obtain ⟨i, kd, ix, n, r, rfl, h1, h2, rfl, rfl, rfl, rfl⟩ := xaldI hx
    exact s_ald C hw hl ho hs h1 h2 hd k
  case baload =>
    have hn : nxt = pc + 1 := hn
    subst hn
    obtain ⟨i, kd, ix, n, r, rfl, h1, h2, rfl, rfl, rfl, rfl⟩ := xzldI hx
    exact s_zld C hw hl ho hs h1 h2 hd k
  case aaload =>
    have hn : nxt = pc + 1 := hn
    subst hn
    obtain ⟨i, kd, ix, n, r, rfl, h1, h2, rfl, rfl, rfl, rfl⟩ := xqldI hx
    exact s_qld C hw hl ho hs h1 h2 hd k
  case iastore =>
    have hn : nxt = pc + 1 := hn
    subst hn
    obtain ⟨x, i, kd, ix, n, r, rfl, h1, h2, rfl, rfl, rfl, rfl⟩ := xastI hx
    exact s_ast C hw hl ho hs h1 h2 hd k
  case bastore =>
    have hn : nxt = pc + 1 := hn
    subst hn
    obtain ⟨x, i, kd, ix, n, r, rfl, h1, h2, h3, rfl, rfl, rfl, rfl⟩ := xzstI hx
    exact s_zst C hw hl ho hs h1 h2 h3 hd k
  case arraylength =>
    have hn : nxt = pc + 1 := hn
    subst hn
    obtain ⟨kd, ix, n, r, rfl, h1, rfl, rfl, rfl, rfl⟩ := xalenI hx
    exact s_alen C hw hl ho hs h1 hd k
  case invokestatic i =>
    have hn : nxt = pc + 3 := hn
    subst hn
    simp only [xexec] at hx
    split at hx
    · next hb0 =>
      unfold xcall at hx
      obtain ⟨_, h3⟩ := bIf_inv hx
      cases h3
    · next hb0 =>
      simp only [chk, Bool.and_eq_true] at hk
      obtain ⟨⟨hk1, hk2⟩, hk3⟩ := hk
      have hk1 := w_in (by simpa only [Bool.and_eq_true] using hk1)
      have hk2 := Nat.le_of_ble_eq_true hk2
      have hk3 := Nat.le_of_ble_eq_true hk3
      split at hx
      · next z x r =>
        obtain ⟨h4, h5⟩ := bIf_inv hx
        obtain ⟨rfl, rfl, rfl, rfl⟩ := nx_inv h5
        have h4 := Nat.le_of_ble_eq_true h4
        exact va_mmax C.1 C.2.1 (by rw [C.2.2.1, hl.1.1]) C.2.2.2.1 (C.2.2.2.2.1 _ hk1) (C.2.2.2.2.1 _ jw_2.1) (C.2.2.2.2.1 _ jw_2.2.2.2) (C.2.2.2.2.1 _ jw_3.1) (Nat.le_trans hk2 hR.1) (by rw [wds_map]; omega) hR.2.2.1 hR.2.2.2 hd (k H locs LS hw hl (okS.i (okS.tl (okS.tl hs))) ho)
      · cases hx
    · next hb0 =>
      simp only [chk, Bool.and_eq_true] at hk
      obtain ⟨⟨hk1, hk2⟩, hk3⟩ := hk
      have hk1 := w_in (by simpa only [Bool.and_eq_true] using hk1)
      have hk2 := Nat.le_of_ble_eq_true hk2
      have hk3 := Nat.le_of_ble_eq_true hk3
      split at hx
      · next z x r =>
        obtain ⟨h4, h5⟩ := bIf_inv hx
        obtain ⟨rfl, rfl, rfl, rfl⟩ := nx_inv h5
        have h4 := Nat.le_of_ble_eq_true h4
        exact va_mmin C.1 C.2.1 (by rw [C.2.2.1, hl.1.1]) C.2.2.2.1 (C.2.2.2.2.1 _ hk1) (C.2.2.2.2.1 _ jw_2.2.1) (C.2.2.2.2.1 _ jw_2.2.2.2) (C.2.2.2.2.1 _ jw_3.2.1) (Nat.le_trans hk2 hR.1) (by rw [wds_map]; omega) hR.2.2.1 hR.2.2.2 hd (k H locs LS hw hl (okS.i (okS.tl (okS.tl hs))) ho)
      · cases hx
    · next hb0 =>
      simp only [chk, Bool.and_eq_true] at hk
      obtain ⟨⟨hk1, hk2⟩, hk3⟩ := hk
      have hk1 := w_in (by simpa only [Bool.and_eq_true] using hk1)
      have hk2 := Nat.le_of_ble_eq_true hk2
      have hk3 := Nat.le_of_ble_eq_true hk3
      split at hx
      · next x r =>
        obtain ⟨h4, h5⟩ := bIf_inv hx
        obtain ⟨rfl, rfl, rfl, rfl⟩ := nx_inv h5
        have h4 := Nat.le_of_ble_eq_true h4
        exact va_mabs C.1 C.2.1 (by rw [C.2.2.1, hl.1.1]) C.2.2.2.1 (C.2.2.2.2.1 _ hk1) (C.2.2.2.2.1 _ jw_2.2.2.1) (C.2.2.2.2.1 _ jw_2.2.2.2) (C.2.2.2.2.1 _ jw_3.2.2) (Nat.le_trans hk2 hR.1) (by rw [wds_map]; omega) hR.2.2.1 hR.2.2.2 hd (k H locs LS hw hl (okS.i (okS.tl hs)) ho)
      · cases hx
    · next hb0 =>
      simp only [chk, Bool.and_eq_true] at hk
      obtain ⟨⟨hk1, hk2⟩, hk3⟩ := hk
      have hk1 := w_in (by simpa only [Bool.and_eq_true] using hk1)
      have hk2 := Nat.le_of_ble_eq_true hk2
      have hk3 := Nat.le_of_ble_eq_true hk3
      split at hx
      · next z1 z2 z3 z4 z5 r0 =>
        obtain ⟨h4, h5⟩ := bIf_inv hx
        have h4 := Nat.le_of_ble_eq_true h4
        obtain ⟨n, dp, sp, kd, ix, kd0, ix0, n0, n1, r, he, h6, h7, h8, rfl, rfl, rfl, rfl⟩ := xcpyI h5
        cases he
        exact s_cpy C hw hl ho hs h6 h7 h8 hk1 (Nat.le_trans hk2 hR.1) (Nat.le_trans hk3 hR.2.1) h4 hd k
      · cases hx
    · cases hx
  case invokevirtual i =>
    have hn : nxt = pc + 3 := hn
    subst hn
    simp only [xexec] at hx
    split at hx
    · obtain ⟨_, h3⟩ := bIf_inv hx
      unfold xcall at h3
      obtain ⟨_, h4⟩ := bIf_inv h3
      cases h4
    · cases hx
  case ireturn =>
    have hn : nxt = pc + 1 := hn
    subst hn
    simp only [xexec] at hx
    split at hx
    · split at hx
      · cases hx
      · split at hx <;> cases hx
    · cases hx
  case lreturn =>
    have hn : nxt = pc + 1 := hn
    subst hn
    simp only [xexec] at hx
    split at hx <;> cases hx
  case areturn =>
    have hn : nxt = pc + 1 := hn
    subst hn
    simp only [xexec] at hx
    split at hx <;> cases hx
  case return_ =>
    have hn : nxt = pc + 1 := hn
    subst hn
    simp only [xexec] at hx
    split at hx <;> cases hx
  all_goals cases hx
end SIM
