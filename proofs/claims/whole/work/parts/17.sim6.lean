/-! The whole run. -/
theorem gd_mem {big : List Cond} {w : Cond} (hb : ∀ w ∈ WL, w ∈ big) (h : w ∈ WL) : w ∈ big ∧ ((w.onTables && w.keeps) = true ∨ ∃ ty, w = .arrayClass ty) := ⟨hb w h, good_of_word (List.mem_filter.mp h).2⟩
theorem gd_cd {big : List Cond} (hb : ∀ w ∈ WL, w ∈ big) {y : Nat} (h : cdW y ∈ WL) : GoodIn big (cdW y :: WL) := by
  intro w hw
  rcases List.mem_cons.mp hw with h1 | h1
  · rw [h1]
    exact gd_mem hb h
  · exact gd_mem hb h1
theorem PcY_blind {D : va_G} {ad : Nat → Nat → Nat} {ct : CT} {σ : Hp} {vs : List PV} {sz : Nat} : FrameBlind (PcY D ad ct σ vs sz) := by
  intro a U g mk q
  obtain ⟨q0, q1, qP, qK, qD, e1, e2, e5, e6, e7⟩ := q
  exact ⟨q0, q1, qP, va_K.moved (u := U) (U := U.calling g mk a) (Vm.Alike.refl U.vm) qK, qD, e1.moved (u := U) (U := U.calling g mk a) (Vm.Alike.refl U.vm), e2.moved (u := U) (U := U.calling g mk a) (Vm.Alike.refl U.vm), e5.moved (u := U) (U := U.calling g mk a) (Vm.Alike.refl U.vm), e6, e7⟩
/-- n steps: whatever the frame, from a run of the small machine the real one comes to the return -/
def SimAt (n : Nat) : Prop := ∀ (y pc : Nat) (ls : Lc) (stk : List PV) (σ : Hp) (r : Option PV) (σ' : Hp), prun n y pc ls stk σ = some (r, σ') →
  ∀ (p : Program) (l : Launch) (e : Env) (R : Room) (s : State) (m : MethodId) (args : Array Value) (below : List Frame) (meth : Method) (c : Code) (H : Heap) (locs : List Loc) (cells slots : Nat) (Q : State → Prop) (D : va_G) (ad : Nat → Nat → Nat) (ct : CT) (A : Nat → Prop) (LS : Array Slot),
  Cx D ct y p s m args c → ((mI y).2.2.2.2.1 ≤ R.frames ∧ (mI y).2.2.2.2.2 ≤ R.locals ∧ cells ≤ R.cells ∧ slots ≤ R.slots) → (∀ q, s.heap.size ≤ q → A q) → Wd D ad ct s A σ H locs → Lr ad (mI y).2.1 LS ls → okS stk → okL ls →
  (∀ (H' : Heap) (locs' : List Loc) (LS' : Array Slot) (pcr : Nat), RetOK y r pcr → (∀ v, r = some v → okV v) → Wd D ad ct s A σ' H' locs' → W p l e R s m args below meth c H' locs' cells slots Q (F0 m pcr LS' (r.toList.map (trV ad)))) →
  W p l e R s m args below meth c H locs cells slots Q (F0 m pc LS (stk.map (trV ad)))
theorem met_of {n : Nat} (hS : SimAt n) {y : Nat} {vs : List PV} {σ σ' : Hp} {r : Option PV} (hrun : prun n y 0 (ent y vs) [] σ = some (r, σ')) (hv : okS vs) (hlen : (entA vs).length ≤ (mI y).2.1) (hy : y < 160) (l : Launch) (D : va_G) (ad : Nat → Nat → Nat) (ct : CT) (sz : Nat) :
    Met l (mY y) (cdW y :: WL) (rmY y) (PcY D ad ct σ vs sz) (QcY D ad ct (va_A (wsO ad ct σ) sz) r σ') 0 0 (va_A (wsO ad ct σ) sz) := by
  refine Met.ofW (cc := (mI y).1) (maxL := (mI y).2.1) (ret := (mI y).2.2.1) (own_at hy).2 rfl ?_
  intro p e s m args below meth c s₁ B hml hpc
  obtain ⟨rfl, hsz, hP, hK, hD0, hEx⟩ := hpc
  have hts := atoms_spec (ws := cdW y :: WL) B.pre
  have hown : s.vm.findClass (mY y).cls = some m.cls := findClass_of_methodNamed B.named
  have hlocks := B.notSynchronized
  rw [(own_at hy).1] at hown
  subst hsz
  have hC : Cx D ct y p s m (vs.map (trV ad)).toArray c := ⟨B.exec, B.bytes, hml, hown, fun w hw => hts w (List.mem_cons_of_mem _ hw), hK⟩
  have hD := hD0.self (sz := s.heap.size)
  have hl := lv_entry (vs.map (trV ad)) (n := (mI y).2.1) (by rw [lgsl_len]; exact hlen)
  rw [lg_entry_eq]
  generalize (lg_sl (vs.map (trV ad)) ++ List.replicate ((mI y).2.1 - (lg_sl (vs.map (trV ad))).length) Slot.unset).toArray = LS at hl ⊢
  refine hS y 0 (ent y vs) [] σ r σ' hrun p l e _ s m _ below meth c s.heap [] 0 0 _ D ad ct (va_A (wsO ad ct σ) s.heap.size) LS hC ⟨Nat.le_refl _, Nat.le_refl _, Nat.zero_le _, Nat.zero_le _⟩ (fun q h => Or.inr h) ⟨hP, hD, va_S.rf, hEx⟩ ⟨⟨hl.1, ent_len hlen⟩, hl.2.1, fun k v hk => ?_⟩ (fun v h => by cases h) (ent_ok hv) ?_
  · have := lvargs_mem ad vs 0 k v (ent_at hk)
    rw [Nat.zero_add] at this
    exact hl.2.2 _ this
  · intro H' locs' LS' pcr hret hrv hw
    have hq : ∀ t : State, t.heap = H' → s.WarmedH t.vm → ∀ v : Option Value, v = r.map (trV ad) → QcY D ad ct (va_A (wsO ad ct σ) s.heap.size) r σ' (vs.map (trV ad)).toArray s (.returned v) t := by
      intro t ht hW v hv
      exact ⟨⟨v, rfl, hv, by rw [ht]; exact hw.1, va_K.moved hW.alike hK, hrv⟩, hw.2.2.1.F ht⟩
    match r, hret, hq with
    | some (.inl x), hret, hq =>
      rcases hret.2 with h1 | ⟨h1, h2⟩
      · exact W.iret B.exec B.bytes (B.returns.trans h1) (fun t ht hW => hq t ht hW _ rfl) hw.2.2.1.2.2 hret.1
      · exact W.zret B.exec B.bytes (B.returns.trans h1) (narZ h2).1 (fun t ht hW => hq t ht hW _ rfl) hw.2.2.1.2.2 hret.1
    | some (.inr (.inl x)), hret, hq => exact W.lret B.exec B.bytes (B.returns.trans hret.2) (fun t ht hW => hq t ht hW _ rfl) hw.2.2.1.2.2 hret.1
    | some (.inr (.inr (x1, x2))), hret, hq => exact W.aret B.exec B.bytes (B.returns.trans hret.2) (Or.inl ⟨_, rfl⟩) (Or.inr ⟨_, rfl⟩) (fun t ht hW => hq t ht hW _ rfl) hw.2.2.1.2.2 hret.1
    | none, hret, hq => exact W.vret B.exec B.bytes (B.returns.trans hret.2) (fun t ht hW => hq t ht hW _ rfl) hw.2.2.1.2.2 hret.1
