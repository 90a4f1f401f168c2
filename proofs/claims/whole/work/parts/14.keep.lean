/-! What lies outside stays. -/
def keepE (σ σ' : Hp) : Prop := σ'.1 31 0 = σ.1 31 0 ∧ σ'.1 32 0 = σ.1 32 0 ∧ σ'.2.2 = σ.2.2
theorem keepE.rf (σ : Hp) : keepE σ σ := ⟨rfl, rfl, rfl⟩
theorem keepE.tr {σ σ1 σ2 : Hp} (h : keepE σ σ1) (h2 : keepE σ1 σ2) : keepE σ σ2 := ⟨h2.1.trans h.1, h2.2.1.trans h.2.1, h2.2.2.trans h.2.2⟩
set_option maxHeartbeats 4000000 in
theorem keep1 {y pc pc' nxt a b : Nat} {I : Jvm.ClassFile.Instr} {σ σ' : Hp} {ls ls' : Lc} {stk stk' : List PV} {sw : List Nat} {v : Int32} {l0 : Int64} (hx : xexec cn y (pc, I, nxt, a, b, sw, v, l0) ls stk σ = some (.inl (pc', ls', stk', σ'))) : keepE σ σ' := by
  cases I
  case iconst n =>
    obtain ⟨rfl, rfl, rfl, rfl⟩ := nx_inv hx
    exact ⟨rfl, rfl, rfl⟩
  case bipush n =>
    obtain ⟨rfl, rfl, rfl, rfl⟩ := nx_inv hx
    exact ⟨rfl, rfl, rfl⟩
  case sipush n =>
    obtain ⟨rfl, rfl, rfl, rfl⟩ := nx_inv hx
    exact ⟨rfl, rfl, rfl⟩
  case lconst n =>
    obtain ⟨rfl, rfl, rfl, rfl⟩ := nx_inv hx
    exact ⟨rfl, rfl, rfl⟩
  case ldc i =>
    obtain ⟨rfl, rfl, rfl, rfl⟩ := nx_inv hx
    exact ⟨rfl, rfl, rfl⟩
  case ldc_w i =>
    obtain ⟨rfl, rfl, rfl, rfl⟩ := nx_inv hx
    exact ⟨rfl, rfl, rfl⟩
  case ldc2_w i =>
    obtain ⟨rfl, rfl, rfl, rfl⟩ := nx_inv hx
    exact ⟨rfl, rfl, rfl⟩
  case goto off =>
    obtain ⟨rfl, rfl, rfl, rfl⟩ := nx_inv hx
    exact ⟨rfl, rfl, rfl⟩
  case getstatic i =>
    obtain ⟨rfl, rfl, rfl, rfl⟩ := nx_inv hx
    exact ⟨rfl, rfl, rfl⟩
  case iload i =>
    obtain ⟨x, h1, rfl, rfl, rfl, rfl⟩ := xloadI hx
    exact ⟨rfl, rfl, rfl⟩
  case istore i =>
    obtain ⟨x, r, rfl, h1, h2, rfl, rfl, rfl, rfl⟩ := xstoreI hx
    exact ⟨rfl, rfl, rfl⟩
  case iload_n i =>
    obtain ⟨x, h1, rfl, rfl, rfl, rfl⟩ := xloadI hx
    exact ⟨rfl, rfl, rfl⟩
  case istore_n i =>
    obtain ⟨x, r, rfl, h1, h2, rfl, rfl, rfl, rfl⟩ := xstoreI hx
    exact ⟨rfl, rfl, rfl⟩
  case lload i =>
    obtain ⟨x, h1, rfl, rfl, rfl, rfl⟩ := xloadL hx
    exact ⟨rfl, rfl, rfl⟩
  case lstore i =>
    obtain ⟨x, r, rfl, h1, h2, rfl, rfl, rfl, rfl⟩ := xstoreL hx
    exact ⟨rfl, rfl, rfl⟩
  case lload_n i =>
    obtain ⟨x, h1, rfl, rfl, rfl, rfl⟩ := xloadL hx
    exact ⟨rfl, rfl, rfl⟩
  case lstore_n i =>
    obtain ⟨x, r, rfl, h1, h2, rfl, rfl, rfl, rfl⟩ := xstoreL hx
    exact ⟨rfl, rfl, rfl⟩
  case aload i =>
    obtain ⟨x, h1, rfl, rfl, rfl, rfl⟩ := xloadR hx
    exact ⟨rfl, rfl, rfl⟩
  case astore i =>
    obtain ⟨x, r, rfl, h1, h2, rfl, rfl, rfl, rfl⟩ := xstoreR hx
    exact ⟨rfl, rfl, rfl⟩
  case aload_n i =>
    obtain ⟨x, h1, rfl, rfl, rfl, rfl⟩ := xloadR hx
    exact ⟨rfl, rfl, rfl⟩
  case astore_n i =>
    obtain ⟨x, r, rfl, h1, h2, rfl, rfl, rfl, rfl⟩ := xstoreR hx
    exact ⟨rfl, rfl, rfl⟩
  case iinc i n =>
    simp only [xexec] at hx
    split at hx
    · obtain ⟨h2, h3⟩ := bIf_inv hx
      obtain ⟨rfl, rfl, rfl, rfl⟩ := nx_inv h3
      exact ⟨rfl, rfl, rfl⟩
    · cases hx
  case iadd =>
    obtain ⟨z, x, r, rfl, rfl, rfl, rfl, rfl⟩ := xiiI hx
    exact ⟨rfl, rfl, rfl⟩
  case isub =>
    obtain ⟨z, x, r, rfl, rfl, rfl, rfl, rfl⟩ := xiiI hx
    exact ⟨rfl, rfl, rfl⟩
  case imul =>
    obtain ⟨z, x, r, rfl, rfl, rfl, rfl, rfl⟩ := xiiI hx
    exact ⟨rfl, rfl, rfl⟩
  case iand =>
    obtain ⟨z, x, r, rfl, rfl, rfl, rfl, rfl⟩ := xiiI hx
    exact ⟨rfl, rfl, rfl⟩
  case ior =>
    obtain ⟨z, x, r, rfl, rfl, rfl, rfl, rfl⟩ := xiiI hx
    exact ⟨rfl, rfl, rfl⟩
  case ixor =>
    obtain ⟨z, x, r, rfl, rfl, rfl, rfl, rfl⟩ := xiiI hx
    exact ⟨rfl, rfl, rfl⟩
  case ishl =>
    obtain ⟨z, x, r, rfl, rfl, rfl, rfl, rfl⟩ := xiiI hx
    exact ⟨rfl, rfl, rfl⟩
  case ishr =>
    obtain ⟨z, x, r, rfl, rfl, rfl, rfl, rfl⟩ := xiiI hx
    exact ⟨rfl, rfl, rfl⟩
  case iushr =>
    obtain ⟨z, x, r, rfl, rfl, rfl, rfl, rfl⟩ := xiiI hx
    exact ⟨rfl, rfl, rfl⟩
  case idiv =>
    obtain ⟨z, x, r, rfl, h1, rfl, rfl, rfl, rfl⟩ := xdivI hx
    exact ⟨rfl, rfl, rfl⟩
  case irem =>
    obtain ⟨z, x, r, rfl, h1, rfl, rfl, rfl, rfl⟩ := xdivI hx
    exact ⟨rfl, rfl, rfl⟩
  case ladd =>
    obtain ⟨z, x, r, rfl, rfl, rfl, rfl, rfl⟩ := xllI hx
    exact ⟨rfl, rfl, rfl⟩
  case lsub =>
    obtain ⟨z, x, r, rfl, rfl, rfl, rfl, rfl⟩ := xllI hx
    exact ⟨rfl, rfl, rfl⟩
  case lmul =>
    obtain ⟨z, x, r, rfl, rfl, rfl, rfl, rfl⟩ := xllI hx
    exact ⟨rfl, rfl, rfl⟩
  case land =>
    obtain ⟨z, x, r, rfl, rfl, rfl, rfl, rfl⟩ := xllI hx
    exact ⟨rfl, rfl, rfl⟩
  case lor =>
    obtain ⟨z, x, r, rfl, rfl, rfl, rfl, rfl⟩ := xllI hx
    exact ⟨rfl, rfl, rfl⟩
  case ldiv =>
    obtain ⟨z, x, r, rfl, h1, rfl, rfl, rfl, rfl⟩ := xldivI hx
    exact ⟨rfl, rfl, rfl⟩
  case lrem =>
    obtain ⟨z, x, r, rfl, h1, rfl, rfl, rfl, rfl⟩ := xldivI hx
    exact ⟨rfl, rfl, rfl⟩
  case ineg =>
    simp only [xexec] at hx
    split at hx
    · obtain ⟨rfl, rfl, rfl, rfl⟩ := nx_inv hx
      exact ⟨rfl, rfl, rfl⟩
    · cases hx
  case i2l =>
    simp only [xexec] at hx
    split at hx
    · obtain ⟨rfl, rfl, rfl, rfl⟩ := nx_inv hx
      exact ⟨rfl, rfl, rfl⟩
    · cases hx
  case l2i =>
    simp only [xexec] at hx
    split at hx
    · obtain ⟨rfl, rfl, rfl, rfl⟩ := nx_inv hx
      exact ⟨rfl, rfl, rfl⟩
    · cases hx
  case lushr =>
    simp only [xexec] at hx
    split at hx
    · obtain ⟨rfl, rfl, rfl, rfl⟩ := nx_inv hx
      exact ⟨rfl, rfl, rfl⟩
    · cases hx
  case lshl =>
    simp only [xexec] at hx
    split at hx
    · obtain ⟨rfl, rfl, rfl, rfl⟩ := nx_inv hx
      exact ⟨rfl, rfl, rfl⟩
    · cases hx
  case lcmp =>
    simp only [xexec] at hx
    split at hx
    · obtain ⟨rfl, rfl, rfl, rfl⟩ := nx_inv hx
      exact ⟨rfl, rfl, rfl⟩
    · cases hx
  case pop =>
    simp only [xexec] at hx
    split at hx
    · obtain ⟨rfl, rfl, rfl, rfl⟩ := nx_inv hx
      exact ⟨rfl, rfl, rfl⟩
    · cases hx
  case dup2 =>
    simp only [xexec] at hx
    split at hx
    · obtain ⟨rfl, rfl, rfl, rfl⟩ := nx_inv hx
      exact ⟨rfl, rfl, rfl⟩
    · cases hx
  case tableswitch d lo hi offs =>
    simp only [xexec] at hx
    split at hx
    · obtain ⟨rfl, rfl, rfl, rfl⟩ := nx_inv hx
      exact ⟨rfl, rfl, rfl⟩
    · cases hx
  case lookupswitch d ps =>
    simp only [xexec] at hx
    split at hx
    · obtain ⟨rfl, rfl, rfl, rfl⟩ := nx_inv hx
      exact ⟨rfl, rfl, rfl⟩
    · cases hx
  case dup =>
    simp only [xexec] at hx
    split at hx
    · obtain ⟨rfl, rfl, rfl, rfl⟩ := nx_inv hx
      exact ⟨rfl, rfl, rfl⟩
    · obtain ⟨rfl, rfl, rfl, rfl⟩ := nx_inv hx
      exact ⟨rfl, rfl, rfl⟩
    · cases hx
  case if_icmp cd off =>
    simp only [xexec] at hx
    split at hx
    · split at hx
      · obtain ⟨rfl, rfl, rfl, rfl⟩ := nx_inv hx
        exact ⟨rfl, rfl, rfl⟩
      · obtain ⟨rfl, rfl, rfl, rfl⟩ := nx_inv hx
        exact ⟨rfl, rfl, rfl⟩
    · cases hx
  case ifCond cd off =>
    simp only [xexec] at hx
    split at hx
    · split at hx
      · obtain ⟨rfl, rfl, rfl, rfl⟩ := nx_inv hx
        exact ⟨rfl, rfl, rfl⟩
      · obtain ⟨rfl, rfl, rfl, rfl⟩ := nx_inv hx
        exact ⟨rfl, rfl, rfl⟩
    · cases hx
  case getfield i =>
    obtain ⟨ix, r, fd, rfl, h1, rfl, rfl, rfl, rfl⟩ := xgetI hx
    exact ⟨rfl, rfl, rfl⟩
  case putfield i =>
    rcases xputI hx with ⟨x, ix, r, rfl, h1, h2, rfl, rfl, rfl, rfl⟩ | ⟨x, ix, r, rfl, h1, rfl, rfl, rfl, rfl⟩
    · have := (fdOf_lt h1).1
      exact ⟨hset_ne (by rintro h1; cases h1; omega), hset_ne (by rintro h1; cases h1; omega), rfl⟩
    · exact ⟨rfl, rfl, rfl⟩
  case iaload =>
    obtain ⟨i, kd, ix, n, r, rfl, h1, h2, rfl, rfl, rfl, rfl⟩ := xaldI hx
    exact ⟨rfl, rfl, rfl⟩
  case baload =>
    obtain ⟨i, kd, ix, n, r, rfl, h1, h2, rfl, rfl, rfl, rfl⟩ := xzldI hx
    exact ⟨rfl, rfl, rfl⟩
  case aaload =>
    obtain ⟨i, kd, ix, n, r, rfl, h1, h2, rfl, rfl, rfl, rfl⟩ := xqldI hx
    exact ⟨rfl, rfl, rfl⟩
  case iastore =>
    obtain ⟨x, i, kd, ix, n, r, rfl, h1, h2, rfl, rfl, rfl, rfl⟩ := xastI hx
    have := (arr_low h1 (by decide)).2.1
    exact ⟨hset_ne (by rintro h1; cases h1; omega), hset_ne (by rintro h1; cases h1; omega), rfl⟩
  case bastore =>
    obtain ⟨x, i, kd, ix, n, r, rfl, h1, h2, h3, rfl, rfl, rfl, rfl⟩ := xzstI hx
    have := (arr_low h1 (by decide)).2.1
    exact ⟨hset_ne (by rintro h1; cases h1; omega), hset_ne (by rintro h1; cases h1; omega), rfl⟩
  case arraylength =>
    obtain ⟨kd, ix, n, r, rfl, h1, rfl, rfl, rfl, rfl⟩ := xalenI hx
    exact ⟨rfl, rfl, rfl⟩
  case invokestatic i =>
    simp only [xexec] at hx
    split at hx
    · unfold xcall at hx
      obtain ⟨_, h3⟩ := bIf_inv hx
      cases h3
    · split at hx
      · obtain ⟨h4, h5⟩ := bIf_inv hx
        obtain ⟨rfl, rfl, rfl, rfl⟩ := nx_inv h5
        exact ⟨rfl, rfl, rfl⟩
      · cases hx
    · split at hx
      · obtain ⟨h4, h5⟩ := bIf_inv hx
        obtain ⟨rfl, rfl, rfl, rfl⟩ := nx_inv h5
        exact ⟨rfl, rfl, rfl⟩
      · cases hx
    · split at hx
      · obtain ⟨h4, h5⟩ := bIf_inv hx
        obtain ⟨rfl, rfl, rfl, rfl⟩ := nx_inv h5
        exact ⟨rfl, rfl, rfl⟩
      · cases hx
    · split at hx
      · obtain ⟨h4, h5⟩ := bIf_inv hx
        obtain ⟨n, dp, sp, kd, ix, kd0, ix0, n0, n1, r, he, h6, h7, h8, rfl, rfl, rfl, rfl⟩ := xcpyI h5
        have := (arr_low h7 (by decide)).2.1
        exact ⟨hrow_ne (by rintro h1; cases h1; omega), hrow_ne (by rintro h1; cases h1; omega), rfl⟩
      · cases hx
    · cases hx
  case invokevirtual i =>
    simp only [xexec] at hx
    split at hx
    · obtain ⟨_, h3⟩ := bIf_inv hx
      unfold xcall at h3
      obtain ⟨_, h4⟩ := bIf_inv h3
      cases h4
    · cases hx
  case ireturn =>
    simp only [xexec] at hx
    split at hx
    · split at hx
      · cases hx
      · split at hx <;> cases hx
    · cases hx
  case lreturn =>
    simp only [xexec] at hx
    split at hx <;> cases hx
  case areturn =>
    simp only [xexec] at hx
    split at hx <;> cases hx
  case return_ =>
    simp only [xexec] at hx
    split at hx <;> cases hx
  all_goals cases hx
theorem keepN : ∀ (n y pc : Nat) (ls : Lc) (stk : List PV) (σ : Hp) (r : Option PV) (σ' : Hp), prun n y pc ls stk σ = some (r, σ') → keepE σ σ'
  | 0, y, pc, ls, stk, σ, r, σ', h => by cases h
  | n + 1, y, pc, ls, stk, σ, r, σ', h => by
    unfold prun at h
    split at h
    · cases h
    · next e he =>
      split at h
      · cases h
      · next pc' ls' stk' σ1 hx =>
        obtain ⟨q1, q2, q3, q4, q5, q6, q7, q8⟩ := e
        exact (keep1 hx).tr (keepN n _ _ _ _ _ _ _ h)
      · next y' vs rest nxt hx =>
        split at h
        · cases h
        · split at h
          · cases h
          · next r1 σ1 h1 => exact (keepN n _ _ _ _ _ _ _ h1).tr (keepN n _ _ _ _ _ _ _ h)
      · next r1 hx =>
        cases h
        exact keepE.rf σ
