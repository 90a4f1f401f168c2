/-! Public calls, third lot: the text's and the sought's sizes. -/
section RU
variable {y pc pc' nxt : Nat} {ls ls' : Lc} {stk stk' r : List PV} {σ σ' : Hp} {Q Q' : Option PV → Hp → Prop}
def swq (y pc : Nat) (stk : List PV) : Option (Int32 × ((Int × Int) × (List Nat × (Nat × List PV)))) := match fetch y pc with
  | some (_, .tableswitch _ lo hi _, _, a, _, sw, _) => match stk with
    | .inl x :: r => some (x, (lo, hi), sw, a, r)
    | _ => none
  | _ => none
theorem RR_sw {x : Int32} {lo hi : Int} {sw : List Nat} {a : Nat} (h : swq y pc stk = some (x, (lo, hi), sw, a, r)) (k : RR y (swT x lo hi sw a) ls r σ Q) : RR y pc ls stk σ Q := by
  unfold swq at h
  split at h
  · next he =>
    split at h
    · cases h
      exact RR_step he (by simp only [xexec]; rfl) k
    · cases h
  · cases h
def gsw (y pc : Nat) (ls : Lc) (stk : List PV) (σ : Hp) : Option ((Int32 × ((Int × Int) × (List Nat × (Nat × List PV)))) × (Lc × Hp)) := match go y [] 80 pc ls stk σ with
  | none => none
  | some (pc', ls', stk', σ') => match swq y pc' stk' with
    | none => none
    | some q => some (q, ls', σ')
theorem G_sw {x : Int32} {lo hi : Int} {sw : List Nat} {a : Nat} (h : gsw y pc ls stk σ = some ((x, (lo, hi), sw, a, r), ls', σ')) (k : RR y (swT x lo hi sw a) ls' r σ' Q) : RR y pc ls stk σ Q := by
  unfold gsw at h
  split at h
  · cases h
  · next h1 =>
    split at h
    · cases h
    · next h2 =>
      cases h
      exact RR_go0 80 h1 (RR_sw h2 k)
end RU
theorem swT_in {x : Int32} {lo hi : Int} {sw : List Nat} {a i : Nat} (hx : x.toInt = lo + i) (hhi : lo + i ≤ hi) : swT x lo hi sw a = sw.getD i a := by
  unfold swT
  rw [if_neg (by omega), hx, show (lo + (i : Int) - lo).toNat = i by omega]
theorem swT_out {x : Int32} {lo hi : Int} {sw : List Nat} {a : Nat} (hx : x.toInt < lo ∨ hi < x.toInt) : swT x lo hi sw a = a := by
  unfold swT
  exact if_pos hx
/-- of the class only the text has changed -/
theorem CS.txt {σ σ' : Hp} {S : SS} {t : TX} (h : CS σ S) (he : ∀ k, k ≠ 4 → k ≠ 13 → k ≠ 14 → σ'.1 k = σ.1 k) (h2 : σ'.2 = σ.2) (ht : cTxt σ' t) : CS σ' (S.1, S.2.1, S.2.2.1, t, S.2.2.2.2) := by
  unfold CS cAct cSlt cSgt isB isI at h ⊢
  rw [he 0 (by decide) (by decide) (by decide), he 2 (by decide) (by decide) (by decide), he 3 (by decide) (by decide) (by decide), he 7 (by decide) (by decide) (by decide), he 8 (by decide) (by decide) (by decide), he 9 (by decide) (by decide) (by decide), he 12 (by decide) (by decide) (by decide), he 15 (by decide) (by decide) (by decide), he 16 (by decide) (by decide) (by decide), he 17 (by decide) (by decide) (by decide), h2]
  exact ⟨h.1, h.2.1, h.2.2.1, ht, h.2.2.2.2.1, h.2.2.2.2.2⟩
theorem CS.sgt {σ σ' : Hp} {S : SS} {g : SG} (h : CS σ S) (he : ∀ k, k ≠ 3 → k ≠ 15 → k ≠ 16 → k ≠ 17 → σ'.1 k = σ.1 k) (h2 : σ'.2 = σ.2) (ht : cSgt σ' g) : CS σ' (S.1, S.2.1, S.2.2.1, S.2.2.2.1, g, S.2.2.2.2.2) := by
  unfold CS cAct cSlt cTxt isB isI at h ⊢
  rw [he 0 (by decide) (by decide) (by decide) (by decide), he 2 (by decide) (by decide) (by decide) (by decide), he 4 (by decide) (by decide) (by decide) (by decide), he 7 (by decide) (by decide) (by decide) (by decide), he 8 (by decide) (by decide) (by decide) (by decide), he 9 (by decide) (by decide) (by decide) (by decide), he 12 (by decide) (by decide) (by decide) (by decide), he 13 (by decide) (by decide) (by decide) (by decide), h2]
  exact ⟨h.1, h.2.1, h.2.2.1, h.2.2.2.1, ht, h.2.2.2.2.2⟩
/-- of the model only the text, or what is sought, has changed, and its own numbers -/
theorem MS.txt {σ σ' : Hp} {S : SS} {t : TX} (h : MS σ S) (he : ∀ k, k ≠ 6 → k ≠ 18 → k ≠ 19 → k ≠ 20 → σ'.1 k = σ.1 k) (h3 : ∀ s, s = 11 ∨ s = 14 → σ'.1 6 0 s = σ.1 6 0 s) (h2 : σ'.2 = σ.2) (ht : mTxt σ' t) : MS σ' (S.1, S.2.1, S.2.2.1, t, S.2.2.2.2) := by
  unfold MS mAct mSlt mSgt isPB isP at h ⊢
  rw [h3 11 (by decide), h3 14 (by decide), he 21 (by decide) (by decide) (by decide) (by decide), he 23 (by decide) (by decide) (by decide) (by decide), he 24 (by decide) (by decide) (by decide) (by decide), he 25 (by decide) (by decide) (by decide) (by decide), he 26 (by decide) (by decide) (by decide) (by decide), he 27 (by decide) (by decide) (by decide) (by decide), he 28 (by decide) (by decide) (by decide) (by decide), h2]
  exact ⟨h.1, h.2.1, h.2.2.1, ht, h.2.2.2.2.1, h.2.2.2.2.2⟩
theorem MS.sgt {σ σ' : Hp} {S : SS} {g : SG} (h : MS σ S) (he : ∀ k, k ≠ 6 → k ≠ 26 → k ≠ 27 → k ≠ 28 → σ'.1 k = σ.1 k) (h3 : ∀ s, s = 2 ∨ s = 11 → σ'.1 6 0 s = σ.1 6 0 s) (h2 : σ'.2 = σ.2) (ht : mSgt σ' g) : MS σ' (S.1, S.2.1, S.2.2.1, S.2.2.2.1, g, S.2.2.2.2.2) := by
  unfold MS mAct mSlt mTxt isPB isP at h ⊢
  rw [h3 2 (by decide), h3 11 (by decide), he 18 (by decide) (by decide) (by decide) (by decide), he 21 (by decide) (by decide) (by decide) (by decide), he 23 (by decide) (by decide) (by decide) (by decide), he 24 (by decide) (by decide) (by decide) (by decide), he 25 (by decide) (by decide) (by decide) (by decide), h2]
  exact ⟨h.1, h.2.1, h.2.2.1, h.2.2.2.1, ht, h.2.2.2.2.2⟩
theorem hk {f : Nat → Nat → Nat → Int32} {a b c a' : Nat} {v : Int32} (h : a' ≠ a) : hset f a b c v a' = f a' := by
  funext i
  exact hset_ne (by rintro e; cases e; exact h rfl)
theorem m_wipe (S : SS) : MSpec 90 [] S (.inl (nI S.2.2.2.1.1)) (S.1, S.2.1, S.2.2.1, (0, S.2.2.2.1.2), S.2.2.2.2) := by
  intro σ hM
  refine G_ret rfl ⟨?_, hM.txt (fun k q _ _ _ => ?_) (fun s q => ?_) rfl ⟨?_, fun i hi => by cases hi⟩, ((cEq.rf σ).st (by decide)).st (by decide)⟩
  · show some (Sum.inl (hset σ.1 6 0 0 0 6 0 2)) = _
    rw [show hset σ.1 6 0 0 0 6 0 2 = σ.1 6 0 2 from by simp [hset], hM.2.2.2.1.1]
  · show hset (hset σ.1 6 0 0 0) 6 0 2 0 k = _
    rw [hk q, hk q]
  · show hset (hset σ.1 6 0 0 0) 6 0 2 0 6 0 s = _
    rcases q with rfl | rfl <;> simp [hset]
  · show hset (hset σ.1 6 0 0 0) 6 0 2 0 6 0 2 = _
    simp [hset]
    rfl
theorem c_unseek (S : SS) : CSpec 75 [] S (.inl (nI S.2.2.2.2.1.1)) (S.1, S.2.1, S.2.2.1, S.2.2.2.1, (0, S.2.2.2.2.1.2), S.2.2.2.2.2) := by
  intro σ hC
  refine G_ret rfl ⟨by rw [hC.2.2.2.2.1.1], hC.sgt (fun k q _ _ _ => ?_) rfl ⟨?_, fun i hi => by cases hi⟩, (mEq.rf σ).st (by decide)⟩
  · show hset σ.1 3 0 3 0 k = _
    rw [hk q]
  · show hset σ.1 3 0 3 0 3 0 3 = _
    simp [hset]
    rfl
theorem m_unseek (S : SS) : MSpec 146 [] S (.inl (nI S.2.2.2.2.1.1)) (S.1, S.2.1, S.2.2.1, S.2.2.2.1, (0, S.2.2.2.2.1.2), S.2.2.2.2.2) := by
  intro σ hM
  refine G_ret rfl ⟨?_, hM.sgt (fun k q _ _ _ => ?_) (fun s q => ?_) rfl ⟨?_, fun i hi => by cases hi⟩, ((cEq.rf σ).st (by decide)).st (by decide)⟩
  · show some (Sum.inl (hset σ.1 6 0 0 0 6 0 14)) = _
    rw [show hset σ.1 6 0 0 0 6 0 14 = σ.1 6 0 14 from by simp [hset], hM.2.2.2.2.1.1]
  · show hset (hset σ.1 6 0 0 0) 6 0 14 0 k = _
    rw [hk q, hk q]
  · show hset (hset σ.1 6 0 0 0) 6 0 14 0 6 0 s = _
    rcases q with rfl | rfl <;> simp [hset]
  · show hset (hset σ.1 6 0 0 0) 6 0 14 0 6 0 14 = _
    simp [hset]
    rfl
noncomputable def fCount (S : SS) (x : Int32) : Int32 := gt (x = 0) (nI S.2.1.1) (gt (x = 1) (nI S.2.2.2.2.1.1) (gt (x = 2) (nI S.2.2.2.1.1) (-2)))
theorem c_count (S : SS) (x : Int32) : CSpec 87 [.inl x] S (.inl (fCount S x)) S := by
  intro σ hC
  obtain ⟨nx, a1, a2, a3, a4⟩ := id hC.2.1
  unfold fCount
  refine G_sw rfl ?_
  by_cases h0 : x = 0
  · rw [gt_t h0, swT_in (x := x) (lo := 0) (hi := 2) (i := 0) (by rw [h0]; rfl) (by decide)]
    exact G_ret rfl ⟨by rw [a3], hC, mEq.rf _⟩
  · rw [gt_f h0]
    by_cases h1 : x = 1
    · rw [gt_t h1, swT_in (x := x) (lo := 0) (hi := 2) (i := 1) (by rw [h1]; rfl) (by decide)]
      exact G_ret rfl ⟨by rw [hC.2.2.2.2.1.1], hC, mEq.rf _⟩
    · rw [gt_f h1]
      by_cases h2 : x = 2
      · rw [gt_t h2, swT_in (x := x) (lo := 0) (hi := 2) (i := 2) (by rw [h2]; rfl) (by decide)]
        exact G_ret rfl ⟨by rw [hC.2.2.2.1.1], hC, mEq.rf _⟩
      · rw [gt_f h2, swT_out (by
          have e0 : ¬ x.toInt = 0 := fun e => h0 (Int32.toInt_inj.mp (by rw [e]; rfl))
          have e1 : ¬ x.toInt = 1 := fun e => h1 (Int32.toInt_inj.mp (by rw [e]; rfl))
          have e2 : ¬ x.toInt = 2 := fun e => h2 (Int32.toInt_inj.mp (by rw [e]; rfl))
          omega)]
        exact G_ret rfl ⟨rfl, hC, mEq.rf _⟩
theorem m_count (S : SS) (x : Int32) : MSpec 157 [.inl x] S (.inl (fCount S x)) S := by
  intro σ hM
  have hM0 := hM.scr (frS.th σ)
  have hc0 := (frS.th σ).c
  unfold fCount
  refine G_if rfl (fun q => ?_) (fun q => ?_)
  · rw [gt_f q]
    refine G_if rfl (fun q2 => ?_) (fun q2 => ?_)
    · rw [gt_f q2]
      refine G_if rfl (fun q3 => ?_) (fun q3 => ?_)
      · rw [gt_f q3]
        exact G_ret rfl ⟨rfl, hM0, hc0⟩
      · rw [gt_t (Classical.not_not.mp q3)]
        exact G_ret rfl ⟨by rw [hM0.2.2.2.1.1], hM0, hc0⟩
    · rw [gt_t (Classical.not_not.mp q2)]
      exact G_ret rfl ⟨by rw [hM0.2.2.2.2.1.1], hM0, hc0⟩
  · rw [gt_t (Classical.not_not.mp q)]
    exact G_ret rfl ⟨by rw [hM0.2.1.1], hM0, hc0⟩
