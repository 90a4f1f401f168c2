section SIM
variable {p : Program} {l : Launch} {e : Env} {R : Room} {s : State} {m : MethodId} {args : Array Value} {below : List Frame} {meth : Method} {c : Code} {H : Heap} {locs : List Loc} {cells slots : Nat} {Q : State → Prop}
variable {D : va_G} {ad : Nat → Nat → Nat} {ct : CT} {A : Nat → Prop} {y : Nat} {σ σ' σ1 : Hp} {ls ls' : Lc} {stk stk' : List PV} {LS : Array Slot} {pc pc' nxt a b : Nat} {sw : List Nat} {v : Int32} {l0 : Int64} {vs rest : List PV} {r1 : Option PV}
theorem va_A_sub (hA : ∀ q, s.heap.size ≤ q → A q) (hw : Wd D ad ct s A σ H locs) : ∀ q, va_A (wsO ad ct σ) H.size q → A q := by
  intro q hq
  rcases hq with ⟨k, e, h⟩ | h
  · exact hw.2.1.2 k (q, e) h
  · exact hA q (Nat.le_trans hw.2.2.1.1 h)
theorem PcY_pre (C : Cx D ct y p s m args c) (hA : ∀ q, s.heap.size ≤ q → A q) (hw : Wd D ad ct s A σ H locs) : ∀ U : State, U.heap = H → s.WarmedH U.vm → PcY D ad ct σ vs H.size (vs.map (trV ad)).toArray U := by
  intro U hU hW
  refine ⟨rfl, by rw [hU], by rw [hU]; exact hw.1, va_K.moved hW.alike C.2.2.2.2.2, hw.2.1.weaken (fun _ _ _ _ => trivial), ?_⟩
  exact hw.2.2.2.moved hW.alike hU hw.2.2.1.1 hw.2.2.1.2.1 (va_A_sub hA hw)
theorem after_call (C : Cx D ct y p s m args c) (hw : Wd D ad ct s A σ H locs) (hl : Lr ad (mI y).2.1 LS ls) (hs : okS (vs.reverse ++ rest)) (ho : okL ls) (hkeep : keepE σ σ1)
    (k : KN p l e R s m args below meth c cells slots Q D ad ct A y (pc + 3) ls (r1.toList ++ rest) σ1)
    {v : Option Value} {t : State} {H1 : Heap} {locs1 : List Loc} (ht : t.heap = H1) (hp : PoY D ad ct r1 σ1 v t) (hS1 : va_S A s.heap H1 locs1) :
    W p l e R s m args below meth c H1 locs1 (cells + 0) (slots + 0) Q (F0 m (pc + 3) LS (v.toList ++ rest.map (trV ad))) := by
  obtain ⟨rfl, hP, hK, hr⟩ := hp
  have hk := k H1 locs1 LS ⟨by rw [← ht]; exact hP, wsO_D σ1 hw.2.1, hS1, hw.2.2.2.congr hkeep.1 hkeep.2.1 hkeep.2.2⟩ hl (fun x hx => by
    rcases List.mem_append.mp hx with h | h
    · exact hr x (by cases r1 with
        | none => cases h
        | some z => simp at h; rw [h])
    · exact hs x (List.mem_append_right _ h)) ho
  rw [List.map_append] at hk
  have e1 : (r1.map (trV ad)).toList = r1.toList.map (trV ad) := by cases r1 <;> rfl
  rw [e1]
  exact hk
theorem okS_rev (hs : okS (vs.reverse ++ rest)) : okS vs := fun x hx => hs x (List.mem_append_left _ (List.mem_reverse.mpr hx))
theorem s_callS {n a idx : Nat} (hSim : SimAt n) (C : Cx D ct y p s m args c) (hR : (mI y).2.2.2.2.1 ≤ R.frames ∧ (mI y).2.2.2.2.2 ≤ R.locals ∧ cells ≤ R.cells ∧ slots ≤ R.slots) (hA : ∀ q, s.heap.size ≤ q → A q) (hw : Wd D ad ct s A σ H locs) (hl : Lr ad (mI y).2.1 LS ls) (hs : okS (vs.reverse ++ rest)) (ho : okL ls)
    (hcs : csT.any (fun q => nbeq q.1 (mI y).2.2.2.1 && nbeq q.2.1 idx && nbeq q.2.2.1 a) = true) (hf1 : (mI a).2.2.2.2.1 + 1 ≤ (mI y).2.2.2.2.1) (hf2 : 8 + ((mI a).2.1 + 11) + (mI a).2.2.2.2.2 ≤ (mI y).2.2.2.2.2) (hvs : vs.length = (cn a).1) (hwd : wds rest ≤ 8) (hlen : (entA vs).length ≤ (mI a).2.1)
    (hrun : prun n a 0 (ent a vs) [] σ = some (r1, σ1)) (hdg : decode (mI y).1 pc = .ok (.invokestatic idx, 3))
    (k : KN p l e R s m args below meth c cells slots Q D ad ct A y (pc + 3) ls (r1.toList ++ rest) σ1) : W p l e R s m args below meth c H locs cells slots Q (F0 m pc LS ((vs.reverse ++ rest).map (trV ad))) := by
  obtain ⟨w1, w2, w3, w4, w5⟩ := st_fact hcs
  have w4 := of_decide_eq_true w4
  obtain ⟨hx, hb, hml, hown, hts, hK⟩ := id C
  have hM := met_of hSim hrun (okS_rev hs) hlen w5 l D ad ct H.size
  have hFc := va_A_sub hA hw
  have hstack : (F0 m pc LS ((vs.reverse ++ rest).map (trV ad))).stack = (vs.map (trV ad)).reverse ++ rest.map (trV ad) := by
    show (vs.reverse ++ rest).map (trV ad) = _
    rw [List.map_append, List.map_reverse]
  refine va_callP (post := PoY D ad ct r1 σ1) (A1 := va_A (wsO ad ct σ) H.size) (va_runS (As := vs.map (trV ad)) (rest := rest.map (trV ad)) ⟨hx, hb, hml, hown, hts⟩ hM (va_cwS (cn a).1 hts (goodIn_app (fun w hw' => ?_) (gd_cd (fun _ h => h) w3)) rfl rfl rfl ⟨w4.1, w4.2.1, w4.2.2.1⟩ ⟨by show (mI a).2.2.2.2.1 + 1 ≤ R.frames; omega, by show 8 + ((mI a).2.1 + 11) + (mI a).2.2.2.2.2 ≤ R.locals; omega⟩) ⟨PcY_blind, PcY_pre C hA hw⟩ rfl (by rw [List.length_map]; exact hvs) hl.1.1 hstack (lv_room (by rw [wds_map]; exact hwd)) hdg ⟨by omega, by omega⟩) hw.2.2.1 (fun q _ h => hFc q h) hFc (fun v t H1 locs1 ht hvm hp hz hS1 => ?_)
  · simp only [List.mem_cons, List.not_mem_nil, or_false] at hw'
    rcases hw' with rfl | rfl | rfl
    · exact gd_mem (fun _ h => h) (w_cs hcs)
    · exact gd_mem (fun _ h => h) w1
    · exact gd_mem (fun _ h => h) w2
  · exact after_call C hw hl hs ho (keepN n _ _ _ _ _ _ _ hrun) k ht hp hS1
theorem s_callV {n a idx kd ix : Nat} {tl : List PV} (hSim : SimAt n) (C : Cx D ct y p s m args c) (hR : (mI y).2.2.2.2.1 ≤ R.frames ∧ (mI y).2.2.2.2.2 ≤ R.locals ∧ cells ≤ R.cells ∧ slots ≤ R.slots) (hA : ∀ q, s.heap.size ≤ q → A q) (hw : Wd D ad ct s A σ H locs) (hl : Lr ad (mI y).2.1 LS ls) (hs : okS (vs.reverse ++ rest)) (ho : okL ls)
    (hcs : cvT.any (fun q => nbeq q.1 (mI y).2.2.2.1 && nbeq q.2.1 idx && nbeq q.2.2.1 a) = true) (hf1 : (mI a).2.2.2.2.1 + 1 ≤ (mI y).2.2.2.2.1) (hf2 : 8 + ((mI a).2.1 + 11) + (mI a).2.2.2.2.2 ≤ (mI y).2.2.2.2.2) (hvs : vs.length = (cn a).1) (hwd : wds rest ≤ 8) (hlen : (entA vs).length ≤ (mI a).2.1) (hrec : (vs.reverse ++ rest).drop ((cn a).1 - 1) = .inr (.inr (kd, ix)) :: tl) (hkd : kd = (cn a).2.1)
    (hrun : prun n a 0 (ent a vs) [] σ = some (r1, σ1)) (hdg : decode (mI y).1 pc = .ok (.invokevirtual idx, 3))
    (k : KN p l e R s m args below meth c cells slots Q D ad ct A y (pc + 3) ls (r1.toList ++ rest) σ1) : W p l e R s m args below meth c H locs cells slots Q (F0 m pc LS ((vs.reverse ++ rest).map (trV ad))) := by
  obtain ⟨w1, w2, w3, w4, w5, w6, w7, w8, w9⟩ := vi_fact hcs
  have w5 := of_decide_eq_true w5
  obtain ⟨hx, hb, hml, hown, hts, hK⟩ := id C
  obtain ⟨v0, vt, rfl⟩ : ∃ v0 vt, vs = v0 :: vt := by
    cases vs with
    | nil => simp at hvs; omega
    | cons v0 vt => exact ⟨v0, vt, rfl⟩
  have hv0 : v0 = .inr (.inr (kd, ix)) := by
    have h1 : (cn a).1 - 1 = vt.reverse.length := by simp at hvs ⊢; omega
    rw [h1, List.reverse_cons, List.append_assoc, List.drop_left] at hrec
    simp only [List.cons_append, List.nil_append, List.cons.injEq] at hrec
    exact hrec.1
  subst hv0
  have hM := met_of hSim hrun (okS_rev hs) hlen w9 l D ad ct H.size
  have hFc := va_A_sub hA hw
  have hin : (kd, ix) ∈ allR := okR_low (by show kd < 31; omega) (hs (.inr (.inr (kd, ix))) (by simp))
  obtain ⟨q0, hq, hat⟩ := wsO_at ad ct hin
  have hcell : cellO ad ct σ kd ix = .inr (kd, (List.range (ftab.getD kd []).length).map (fval ad σ kd ix)) := by
    unfold cellO
    rw [arr_obj (by omega)]
  have he := hat σ
  rw [hcell] at he
  obtain ⟨N, ty, c1, -⟩ := cls_ok kd (by omega)
  have hcls : (mY a).cls = oN kd := by rw [w6, hkd]
  have hstack : (F0 m pc LS (((.inr (.inr (kd, ix)) :: vt).reverse ++ rest).map (trV ad))).stack = (vt.map (trV ad)).reverse ++ .ref (ad kd ix) :: rest.map (trV ad) := by
    show ((.inr (.inr (kd, ix)) :: vt).reverse ++ rest).map (trV ad) = _
    rw [List.map_append, List.reverse_cons, List.map_append, List.map_reverse, List.append_assoc]
    rfl
  have hrv := va_recv hK hw.1 c1 he
  rw [show ((oN kd, tN kd, N) : vw_C).1 = (mY a).cls from hcls.symm] at hrv
  refine va_callP (post := PoY D ad ct r1 σ1) (A1 := va_A (wsO ad ct σ) H.size) (va_runV (As := vt.map (trV ad)) (rest := rest.map (trV ad)) (b := ad kd ix) (C := (mY a).cls) ⟨hx, hb, hml, hown, hts⟩ hM (cwV ((cn a).1 - 1) hts (goodIn_app (fun w hw' => ?_) (gd_cd (fun _ h => h) w4)) rfl rfl rfl ⟨rfl, w5.1, w5.2.1, w5.2.2.1⟩ ⟨by show (mI a).2.2.2.2.1 + 1 ≤ R.frames; omega, by show 8 + ((mI a).2.1 + 11) + (mI a).2.2.2.2.2 ≤ R.locals; omega⟩) ⟨PcY_blind, hrv, PcY_pre C hA hw⟩ rfl (by rw [List.length_map]; simp at hvs; omega) hl.1.1 hstack (lv_room (by rw [wds_map]; exact hwd)) hdg ⟨by omega, by omega⟩) hw.2.2.1 (fun q _ h => hFc q h) hFc (fun v t H1 locs1 ht hvm hp hz hS1 => ?_)
  · simp only [List.mem_cons, List.not_mem_nil, or_false] at hw'
    rcases hw' with rfl | rfl | rfl | rfl
    · exact gd_mem (fun _ h => h) (w_cv hcs)
    · exact gd_mem (fun _ h => h) w1
    · exact gd_mem (fun _ h => h) w2
    · exact gd_mem (fun _ h => h) w3
  · exact after_call C hw hl hs ho (keepN n _ _ _ _ _ _ _ hrun) k ht hp hS1
end SIM
theorem fetch_inv {y pc : Nat} {e : En} (h : fetch y pc = some e) : e ∈ prog y ∧ e.1 = pc := by
  unfold fetch at h
  have h1 := List.find?_some h
  exact ⟨List.mem_of_find?_eq_some h, Nat.eq_of_beq_eq_true h1⟩
theorem simAll : ∀ n, SimAt n
  | 0 => by intro y pc ls stk σ r σ' h; cases h
  | n + 1 => by
    have ih := simAll n
    intro y pc ls stk σ r σ' h p l e R s m args below meth c H locs cells slots Q D ad ct A LS C hR hA hw hl hs ho kret
    unfold prun at h
    split at h
    · cases h
    · next en he =>
      obtain ⟨hmem, hpc⟩ := fetch_inv he
      have hchk := prog_ok y en hmem
      obtain ⟨pc0, I, nxt, a, b, sw, v, l0⟩ := en
      have hpc : pc0 = pc := hpc
      subst hpc
      split at h
      · cases h
      · next pc' ls' stk' σ1 hx =>
        refine sim1 hchk C hR hw hl hs ho hx (fun H' locs' LS' hw' hl' hs' ho' => ?_)
        exact ih y pc' ls' stk' σ1 r σ' h p l e R s m args below meth c H' locs' cells slots Q D ad ct A LS' C hR hA hw' hl' hs' ho' kret
      · next y' vs rest nxt' hx =>
        split at h
        · cases h
        · next hble =>
          have hlen := Nat.le_of_ble_eq_true hble
          split at h
          · cases h
          · next r1 σ1 hrun =>
            obtain ⟨⟨rfl, rfl, rfl, hvs, hwd⟩, hkind⟩ := call_inv hx
            have hk : KN p l e R s m args below meth c cells slots Q D ad ct A y nxt' ls (r1.toList ++ rest) σ1 := fun H' locs' LS' hw' hl' hs' ho' => ih y nxt' ls (r1.toList ++ rest) σ1 r σ' h p l e R s m args below meth c H' locs' cells slots Q D ad ct A LS' C hR hA hw' hl' hs' ho' kret
            simp only [chkD, Bool.and_eq_true] at hchk
            obtain ⟨hd0, hn0, hkk⟩ := hchk
            have hd := of_decide_eq_true hd0
            have hn := nb hn0
            rcases hkind with ⟨i, rfl, rfl⟩ | ⟨i, kd, ix, tl, rfl, hdr, hkd⟩
            · have hn : nxt' = pc0 + 3 := hn
              subst hn
              simp only [chk, Bool.and_eq_true] at hkk
              exact s_callS ih C hR hA hw hl hs ho (by simpa only [Bool.and_eq_true] using hkk.1.1) (Nat.le_of_ble_eq_true hkk.1.2) (Nat.le_of_ble_eq_true hkk.2) hvs hwd hlen hrun hd hk
            · have hn : nxt' = pc0 + 3 := hn
              subst hn
              simp only [chk, Bool.and_eq_true] at hkk
              exact s_callV ih C hR hA hw hl hs ho (by simpa only [Bool.and_eq_true] using hkk.1.1) (Nat.le_of_ble_eq_true hkk.1.2) (Nat.le_of_ble_eq_true hkk.2) hvs hwd hlen hdr hkd hrun hd hk
      · next r0 hx =>
        cases h
        obtain ⟨h1, h2⟩ := ret_inv hchk hx
        subst h2
        exact kret H locs LS pc0 h1 (fun v hv => hs v (by rw [hv]; exact List.mem_cons_self)) hw
