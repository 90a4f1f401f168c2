section SIM
variable {p : Program} {l : Launch} {e : Env} {R : Room} {s : State} {m : MethodId} {args : Array Value} {below : List Frame} {meth : Method} {c : Code} {H : Heap} {locs : List Loc} {cells slots : Nat} {Q : State → Prop}
variable {D : va_G} {ad : Nat → Nat → Nat} {ct : CT} {A : Nat → Prop} {y : Nat} {σ σ' : Hp} {ls ls' : Lc} {stk stk' : List PV} {LS : Array Slot} {pc pc' nxt a b : Nat} {sw : List Nat} {v : Int32} {l0 : Int64} {r : List PV}
/-- how it goes on -/
def KN (p : Program) (l : Launch) (e : Env) (R : Room) (s : State) (m : MethodId) (args : Array Value) (below : List Frame) (meth : Method) (c : Code) (cells slots : Nat) (Q : State → Prop) (D : va_G) (ad : Nat → Nat → Nat) (ct : CT) (A : Nat → Prop) (y : Nat) (pc' : Nat) (ls' : Lc) (stk' : List PV) (σ' : Hp) : Prop :=
  ∀ (H' : Heap) (locs' : List Loc) (LS' : Array Slot), Wd D ad ct s A σ' H' locs' → Lr ad (mI y).2.1 LS' ls' → okS stk' → okL ls' → W p l e R s m args below meth c H' locs' cells slots Q (F0 m pc' LS' (stk'.map (trV ad)))
theorem s_get (C : Cx D ct y p s m args c) (hw : Wd D ad ct s A σ H locs) (hl : Lr ad (mI y).2.1 LS ls) (ho : okL ls) {ix idx : Nat} {fd : FD} (hs : okS (.inr (.inr (a, ix)) :: r)) (hf : fdOf a b = some fd)
    (hlink : Cond.fieldLink (oN (mI y).2.2.2.1) idx (tN a b).1 (tN a b).2.1 (tN a b).2.2.1 ∈ WL) (hdg : decode (mI y).1 pc = .ok (.getfield idx, 3))
    (k : KN p l e R s m args below meth c cells slots Q D ad ct A y (pc + 3) ls (gval fd σ a ix b :: r) σ) : W p l e R s m args below meth c H locs cells slots Q (F0 m pc LS ((.inr (.inr (a, ix)) :: r : List PV).map (trV ad))) := by
  obtain ⟨hx, hb, hml, hown, hts, hK⟩ := C
  obtain ⟨h7, hbl⟩ := fdOf_lt hf
  obtain ⟨N, ty, c1, c2, c3, c4, c5, c6⟩ := cls_ok a h7
  have hin : (a, ix) ∈ allR := okR_low (by show a < 31; omega) (okS.hd hs)
  obtain ⟨q0, hq, hat⟩ := wsO_at ad ct hin
  have hcell : cellO ad ct σ a ix = .inr (a, (List.range (ftab.getD a []).length).map (fval ad σ a ix)) := by
    unfold cellO
    rw [arr_obj h7]
  have he := hat σ
  rw [hcell] at he
  refine va_get (v := fval ad σ a ix b) hx hb hts c2 hown hK hw.1 q0 he c1 b (by rw [c5]; exact hbl) (hts _ hlink) (fun _ h9 => h9) (by rw [List.getElem?_map, List.getElem?_range hbl]; rfl) hdg ?_
  have hgv : fval ad σ a ix b = trV ad (gval fd σ a ix b) := by
    unfold fval gval
    rw [hf]
    rcases fd with _ | _ | g <;> rfl
  rw [hgv]
  refine k H locs LS hw hl (okS.cons ?_ (okS.tl hs)) ho
  unfold gval
  rcases fd with _ | _ | g
  · trivial
  · trivial
  · exact Or.inl (fd_ref hf hin)
theorem Wd.set {σ' : Hp} {H1 : Heap} {locs1 : List Loc} {q0 : Nat} {x : Nat × Nat} {E : va_E} (hw : Wd D ad ct s A σ H locs) (hq : allR[q0]? = some x) (he : cellO ad ct σ' x.1 x.2 = E) (ho : ∀ r' : Nat × Nat, r' ∈ allR → r' ≠ x → cellO ad ct σ' r'.1 r'.2 = cellO ad ct σ r'.1 r'.2) (hx : Ex ad s A σ')
    (h1 : va_P D vwCl ((wsO ad ct σ).set q0 (ad x.1 x.2, E)) H1) (h2 : va_D A ((wsO ad ct σ).set q0 (ad x.1 x.2, E))) (h3 : va_S A s.heap H1 locs1) : Wd D ad ct s A σ' H1 locs1 := by
  rw [wsO_set hq he ho] at h1 h2
  exact ⟨h1, h2, h3, hx⟩
theorem Ex.hset {kd ix i : Nat} {x : Int32} (h : Ex ad s A σ) (hk : kd < 31) : Ex ad s A (hset σ.1 kd ix i x, σ.2) := h.congr (hset_ne (by rintro h1; cases h1; omega)) (hset_ne (by rintro h1; cases h1; omega)) rfl
theorem Ex.hrow {kd ix : Nat} {g : Nat → Int32} (h : Ex ad s A σ) (hk : kd < 31) : Ex ad s A (hrow σ.1 kd ix g, σ.2) := h.congr (hrow_ne (by rintro h1; cases h1; omega)) (hrow_ne (by rintro h1; cases h1; omega)) rfl
theorem cell_hset {kd ix i : Nat} {x : Int32} (r' : Nat × Nat) (_ : r' ∈ allR) (h : r' ≠ (kd, ix)) : cellO ad ct (hset σ.1 kd ix i x, σ.2) r'.1 r'.2 = cellO ad ct σ r'.1 r'.2 := cellO_congr (hset_ne h) rfl rfl
theorem cell_hrow {kd ix : Nat} {g : Nat → Int32} (r' : Nat × Nat) (_ : r' ∈ allR) (h : r' ≠ (kd, ix)) : cellO ad ct (hrow σ.1 kd ix g, σ.2) r'.1 r'.2 = cellO ad ct σ r'.1 r'.2 := cellO_congr (hrow_ne h) rfl rfl
theorem narZ {x : Int32} (h : zOk x) : narrow .boolean (.int x) = .int x ∧ fits .boolean (.int x) = true := by
  rcases h with rfl | rfl <;> exact ⟨rfl, rfl⟩
theorem s_putI (C : Cx D ct y p s m args c) (hw : Wd D ad ct s A σ H locs) (hl : Lr ad (mI y).2.1 LS ls) (ho : okL ls) {ix idx : Nat} {x : Int32} (hs : okS (.inl x :: .inr (.inr (a, ix)) :: r)) (hf : fdOf a b = some none) (hz : isZ a b = true → zOk x)
    (hlink : Cond.fieldLink (oN (mI y).2.2.2.1) idx (tN a b).1 (tN a b).2.1 (tN a b).2.2.1 ∈ WL) (hfin : (tN a b).2.2.2 = false) (hdg : decode (mI y).1 pc = .ok (.putfield idx, 3))
    (k : KN p l e R s m args below meth c cells slots Q D ad ct A y (pc + 3) ls r (hset σ.1 a ix b x, σ.2)) : W p l e R s m args below meth c H locs cells slots Q (F0 m pc LS ((.inl x :: .inr (.inr (a, ix)) :: r : List PV).map (trV ad))) := by
  obtain ⟨hx, hb, hml, hown, hts, hK⟩ := C
  obtain ⟨h7, hbl⟩ := fdOf_lt hf
  obtain ⟨N, ty, c1, c2, c3, c4, c5, c6⟩ := cls_ok a h7
  have hbN : b < N := by rw [c5]; exact hbl
  have hin : (a, ix) ∈ allR := okR_low (by show a < 31; omega) (okS.hd (okS.tl hs))
  obtain ⟨q0, hq, hat⟩ := wsO_at ad ct hin
  have hcell : ∀ σ1, cellO ad ct σ1 a ix = .inr (a, (List.range (ftab.getD a []).length).map (fval ad σ1 a ix)) := by
    intro σ1
    unfold cellO
    rw [arr_obj h7]
  have he := hat σ
  rw [hcell] at he
  have hnf : narrow (ty b) (.int x) = .int x ∧ fits (ty b) (.int x) = true := by
    cases hzb : isZ a b with
    | true =>
      rw [((c6 b hbN).1 hf).1 hzb]
      exact narZ (hz hzb)
    | false =>
      rw [((c6 b hbN).1 hf).2 hzb]
      exact ⟨rfl, rfl⟩
  refine va_put (v := .int x) hx hb hts c2 ty c3 c4 hown hK hw.1 hw.2.1 hw.2.2.1 q0 he c1 b hbN (hts _ hlink) (fun _ h9 => h9) hfin (c3 b hbN) hnf.1 hnf.2 (by simpa using hbl) hdg (fun H1 locs1 h1 h2 h3 => ?_)
  refine k H1 locs1 LS (Wd.set (σ' := (hset σ.1 a ix b x, σ.2)) hw hq ?_ (cell_hset) (hw.2.2.2.hset (by omega)) h1 h2 h3) hl (okS.tl (okS.tl hs)) ho
  rw [hcell]
  congr 2
  refine (fvals_set ?_ (fun k hk => ?_)).symm
  · unfold fval
    rw [hf]
    simp [hset]
  · unfold fval
    have : hset σ.1 a ix b x a ix k = σ.1 a ix k := by simp [hset, hk]
    simp only [this]
theorem s_putL (C : Cx D ct y p s m args c) (hw : Wd D ad ct s A σ H locs) (hl : Lr ad (mI y).2.1 LS ls) (ho : okL ls) {ix idx : Nat} {x : Int64} (hs : okS (.inr (.inl x) :: .inr (.inr (a, ix)) :: r)) (hf : fdOf a b = some (some none))
    (hlink : Cond.fieldLink (oN (mI y).2.2.2.1) idx (tN a b).1 (tN a b).2.1 (tN a b).2.2.1 ∈ WL) (hfin : (tN a b).2.2.2 = false) (hdg : decode (mI y).1 pc = .ok (.putfield idx, 3))
    (k : KN p l e R s m args below meth c cells slots Q D ad ct A y (pc + 3) ls r (σ.1, lset σ.2.1 a x, σ.2.2)) : W p l e R s m args below meth c H locs cells slots Q (F0 m pc LS ((.inr (.inl x) :: .inr (.inr (a, ix)) :: r : List PV).map (trV ad))) := by
  obtain ⟨hx, hb, hml, hown, hts, hK⟩ := C
  obtain ⟨h7, hbl⟩ := fdOf_lt hf
  obtain ⟨N, ty, c1, c2, c3, c4, c5, c6⟩ := cls_ok a h7
  have hbN : b < N := by rw [c5]; exact hbl
  have hin : (a, ix) ∈ allR := okR_low (by show a < 31; omega) (okS.hd (okS.tl hs))
  have hone : ∀ i, (a, i) ∈ allR → i = 0 := by
    intro i hi
    have h1 := (allR_iff.mp hi).2
    rcases fd_long hf with ⟨rfl, -⟩ | ⟨rfl, -⟩
    · have h2 : i < 1 := h1
      omega
    · have h2 : i < 1 := h1
      omega
  obtain ⟨q0, hq, hat⟩ := wsO_at ad ct hin
  have hcell : ∀ σ1, cellO ad ct σ1 a ix = .inr (a, (List.range (ftab.getD a []).length).map (fval ad σ1 a ix)) := by
    intro σ1
    unfold cellO
    rw [arr_obj h7]
  have he := hat σ
  rw [hcell] at he
  have hnf : narrow (ty b) (.long x) = .long x ∧ fits (ty b) (.long x) = true := by
    rw [(c6 b hbN).2 hf]
    exact ⟨rfl, rfl⟩
  refine va_put (v := .long x) hx hb hts c2 ty c3 c4 hown hK hw.1 hw.2.1 hw.2.2.1 q0 he c1 b hbN (hts _ hlink) (fun _ h9 => h9) hfin (c3 b hbN) hnf.1 hnf.2 (by simpa using hbl) hdg (fun H1 locs1 h1 h2 h3 => ?_)
  refine k H1 locs1 LS (Wd.set (σ' := (σ.1, lset σ.2.1 a x, σ.2.2)) hw hq ?_ ?_ (hw.2.2.2.congr rfl rfl rfl) h1 h2 h3) hl (okS.tl (okS.tl hs)) ho
  · rw [hcell]
    congr 2
    refine (fvals_set ?_ (fun k hk => ?_)).symm
    · unfold fval
      rw [hf]
      simp [lset]
    · unfold fval
      have hno : fdOf a k ≠ some (some none) := fun h => hk (by
        rcases fd_long hf with ⟨h8, h9⟩ | ⟨h8, h9⟩ <;> rcases fd_long h with ⟨h5, h6⟩ | ⟨h5, h6⟩ <;> omega)
      split <;> first | rfl | (next hh => exact absurd hh hno)
  · intro r' hr' hne
    obtain ⟨k1, i1⟩ := r'
    by_cases hka : k1 = a
    · subst hka
      exact absurd (by rw [hone i1 hr', hone ix hin]) hne
    · exact cellO_congr rfl (by simp [lset, hka]) rfl
end SIM
