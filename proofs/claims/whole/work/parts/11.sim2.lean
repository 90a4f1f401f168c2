section SIM
variable {p : Program} {l : Launch} {e : Env} {R : Room} {s : State} {m : MethodId} {args : Array Value} {below : List Frame} {meth : Method} {c : Code} {H : Heap} {locs : List Loc} {cells slots : Nat} {Q : State → Prop}
variable {D : va_G} {ad : Nat → Nat → Nat} {ct : CT} {A : Nat → Prop} {y : Nat} {σ σ' : Hp} {ls ls' : Lc} {stk stk' : List PV} {LS : Array Slot} {pc pc' nxt a b : Nat} {sw : List Nat} {v : Int32} {l0 : Int64} {r : List PV}
theorem cell_0 {kd ix n : Nat} (h : arr σ kd = some (0, n)) : cellO ad ct σ kd ix = .inl (ct.1, n, .inl (σ.1 kd ix)) := by
  unfold cellO
  rw [h]
  rfl
theorem cell_1 {kd ix n : Nat} (h : arr σ kd = some (1, n)) : cellO ad ct σ kd ix = .inl (ct.2.1, n, .inl (σ.1 kd ix)) := by
  unfold cellO
  rw [h]
  rfl
theorem cell_2 {kd ix n : Nat} (h : arr σ kd = some (2, n)) : cellO ad ct σ kd ix = .inl (ct.2.2, n, .inr (.inr (.inr (.inr (fun j => some (ad 1 (qb kd + j))))))) := by
  unfold cellO
  rw [h]
  rfl
theorem s_ald (C : Cx D ct y p s m args c) (hw : Wd D ad ct s A σ H locs) (hl : Lr ad (mI y).2.1 LS ls) (ho : okL ls) {kd ix n : Nat} {i : Int32} (hs : okS (.inl i :: .inr (.inr (kd, ix)) :: r)) (ha : arr σ kd = some (0, n) ∨ arr σ kd = some (3, n)) (hi : vp_in i n) (hdg : decode (mI y).1 pc = .ok (.iaload, 1))
    (k : KN p l e R s m args below meth c cells slots Q D ad ct A y (pc + 1) ls (.inl (σ.1 kd ix i.toNatClampNeg) :: r) σ) : W p l e R s m args below meth c H locs cells slots Q (F0 m pc LS ((.inl i :: .inr (.inr (kd, ix)) :: r : List PV).map (trV ad))) := by
  obtain ⟨hx, hb, hml, hown, hts, hK⟩ := C
  have hk := k H locs LS hw hl (okS.i (okS.tl (okS.tl hs))) ho
  rcases ha with ha | ha
  · have hin := arr_mut ha (by decide) (okS.hd (okS.tl hs))
    obtain ⟨q0, hq, hat⟩ := wsO_at ad ct hin
    have he := hat σ
    rw [cell_0 ha] at he
    exact va_iald hx hb hK hw.1 q0 0 he rfl hi hdg hk
  · obtain ⟨e1, e2, e5, e6, e7⟩ := hw.2.2.2
    rcases arr_3 (r := (kd, ix)) ha (okS.hd (okS.tl hs)) with ⟨h1, h2⟩ | ⟨h1, h2⟩
    · cases h1
      subst h2
      exact va_ti hx hb e2 hw.2.2.1 hi rfl hdg hk
    · cases h1
      subst h2
      exact va_sld hx hb e5 e6 e7 hw.2.2.1 hi hdg hk
theorem s_alen (C : Cx D ct y p s m args c) (hw : Wd D ad ct s A σ H locs) (hl : Lr ad (mI y).2.1 LS ls) (ho : okL ls) {kd ix n : Nat} (hs : okS (.inr (.inr (kd, ix)) :: r)) (ha : arr σ kd = some (3, n)) (hdg : decode (mI y).1 pc = .ok (.arraylength, 1))
    (k : KN p l e R s m args below meth c cells slots Q D ad ct A y (pc + 1) ls (.inl (Int32.ofNat n) :: r) σ) : W p l e R s m args below meth c H locs cells slots Q (F0 m pc LS ((.inr (.inr (kd, ix)) :: r : List PV).map (trV ad))) := by
  obtain ⟨hx, hb, hml, hown, hts, hK⟩ := C
  have hk := k H locs LS hw hl (okS.i (okS.tl hs)) ho
  obtain ⟨e1, e2, e5, e6, e7⟩ := hw.2.2.2
  rcases arr_3 (r := (kd, ix)) ha (okS.hd hs) with ⟨h1, h2⟩ | ⟨h1, h2⟩
  · cases h1
    subst h2
    exact va_tlen hx hb e2 hw.2.2.1 rfl hdg hk
  · cases h1
    subst h2
    exact va_slen hx hb e5 e6 e7 hw.2.2.1 hdg hk
theorem s_zld (C : Cx D ct y p s m args c) (hw : Wd D ad ct s A σ H locs) (hl : Lr ad (mI y).2.1 LS ls) (ho : okL ls) {kd ix n : Nat} {i : Int32} (hs : okS (.inl i :: .inr (.inr (kd, ix)) :: r)) (ha : arr σ kd = some (1, n)) (hi : vp_in i n) (hdg : decode (mI y).1 pc = .ok (.baload, 1))
    (k : KN p l e R s m args below meth c cells slots Q D ad ct A y (pc + 1) ls (.inl (σ.1 kd ix i.toNatClampNeg) :: r) σ) : W p l e R s m args below meth c H locs cells slots Q (F0 m pc LS ((.inl i :: .inr (.inr (kd, ix)) :: r : List PV).map (trV ad))) := by
  obtain ⟨hx, hb, hml, hown, hts, hK⟩ := C
  have hk := k H locs LS hw hl (okS.i (okS.tl (okS.tl hs))) ho
  have hin := arr_mut ha (by decide) (okS.hd (okS.tl hs))
  obtain ⟨q0, hq, hat⟩ := wsO_at ad ct hin
  have he := hat σ
  rw [cell_1 ha] at he
  exact va_zald hx hb hK hw.1 q0 1 he rfl hi hdg hk
theorem s_qld (C : Cx D ct y p s m args c) (hw : Wd D ad ct s A σ H locs) (hl : Lr ad (mI y).2.1 LS ls) (ho : okL ls) {kd ix n : Nat} {i : Int32} (hs : okS (.inl i :: .inr (.inr (kd, ix)) :: r)) (ha : arr σ kd = some (2, n)) (hi : vp_in i n) (hdg : decode (mI y).1 pc = .ok (.aaload, 1))
    (k : KN p l e R s m args below meth c cells slots Q D ad ct A y (pc + 1) ls (.inr (.inr (1, qb kd + i.toNatClampNeg)) :: r) σ) : W p l e R s m args below meth c H locs cells slots Q (F0 m pc LS ((.inl i :: .inr (.inr (kd, ix)) :: r : List PV).map (trV ad))) := by
  obtain ⟨hx, hb, hml, hown, hts, hK⟩ := C
  have hlt : i.toNatClampNeg < n := Nat.not_le.mp fun q => hi (Or.inr q)
  have hk := k H locs LS hw hl (okS.cons (Or.inl (qarr_in ha hlt)) (okS.tl (okS.tl hs))) ho
  have hin := arr_mut ha (by decide) (okS.hd (okS.tl hs))
  obtain ⟨q0, hq, hat⟩ := wsO_at ad ct hin
  have he := hat σ
  rw [cell_2 ha] at he
  exact va_aldq hx hb hK hw.1 q0 2 he rfl hi hdg hk
theorem s_ast (C : Cx D ct y p s m args c) (hw : Wd D ad ct s A σ H locs) (hl : Lr ad (mI y).2.1 LS ls) (ho : okL ls) {kd ix n : Nat} {x i : Int32} (hs : okS (.inl x :: .inl i :: .inr (.inr (kd, ix)) :: r)) (ha : arr σ kd = some (0, n)) (hi : vp_in i n) (hdg : decode (mI y).1 pc = .ok (.iastore, 1))
    (k : KN p l e R s m args below meth c cells slots Q D ad ct A y (pc + 1) ls r (hset σ.1 kd ix i.toNatClampNeg x, σ.2)) : W p l e R s m args below meth c H locs cells slots Q (F0 m pc LS ((.inl x :: .inl i :: .inr (.inr (kd, ix)) :: r : List PV).map (trV ad))) := by
  obtain ⟨hx, hb, hml, hown, hts, hK⟩ := C
  have hlow := arr_low ha (by decide)
  have hin := arr_mut ha (by decide) (okS.hd (okS.tl (okS.tl hs)))
  obtain ⟨q0, hq, hat⟩ := wsO_at ad ct hin
  have he := hat σ
  rw [cell_0 ha] at he
  refine va_iast hx hb hK hw.1 hw.2.1 hw.2.2.1 q0 0 he rfl hi hdg (fun H1 locs1 h1 h2 h3 => ?_)
  refine k H1 locs1 LS (Wd.set (σ' := (hset σ.1 kd ix i.toNatClampNeg x, σ.2)) hw hq ?_ cell_hset (hw.2.2.2.hset (by omega)) h1 h2 h3) hl (okS.tl (okS.tl (okS.tl hs))) ho
  have ha' : arr (hset σ.1 kd ix i.toNatClampNeg x, σ.2) kd = some (0, n) := (arr_congr kd rfl).trans ha
  show cellO ad ct _ kd ix = _
  rw [cell_0 ha']
  show _ = Sum.inl (ct.1, n, Sum.inl (upd (σ.1 kd ix) i.toNatClampNeg x))
  rw [← hset_eq]
theorem s_zst (C : Cx D ct y p s m args c) (hw : Wd D ad ct s A σ H locs) (hl : Lr ad (mI y).2.1 LS ls) (ho : okL ls) {kd ix n : Nat} {x i : Int32} (hs : okS (.inl x :: .inl i :: .inr (.inr (kd, ix)) :: r)) (ha : arr σ kd = some (1, n)) (hi : vp_in i n) (hz : zOk x) (hdg : decode (mI y).1 pc = .ok (.bastore, 1))
    (k : KN p l e R s m args below meth c cells slots Q D ad ct A y (pc + 1) ls r (hset σ.1 kd ix i.toNatClampNeg x, σ.2)) : W p l e R s m args below meth c H locs cells slots Q (F0 m pc LS ((.inl x :: .inl i :: .inr (.inr (kd, ix)) :: r : List PV).map (trV ad))) := by
  obtain ⟨hx, hb, hml, hown, hts, hK⟩ := C
  have hlow := arr_low ha (by decide)
  have hin := arr_mut ha (by decide) (okS.hd (okS.tl (okS.tl hs)))
  obtain ⟨q0, hq, hat⟩ := wsO_at ad ct hin
  have he := hat σ
  rw [cell_1 ha] at he
  have hn : vp_nar .boolean x = x := by
    unfold vp_nar
    rw [(narZ hz).1]
  refine va_zast hx hb hK hw.1 hw.2.1 hw.2.2.1 q0 1 he rfl (x := x) hi hdg (fun H1 locs1 h1 h2 h3 => ?_)
  rw [hn] at h1 h2
  refine k H1 locs1 LS (Wd.set (σ' := (hset σ.1 kd ix i.toNatClampNeg x, σ.2)) hw hq ?_ cell_hset (hw.2.2.2.hset (by omega)) h1 h2 h3) hl (okS.tl (okS.tl (okS.tl hs))) ho
  have ha' : arr (hset σ.1 kd ix i.toNatClampNeg x, σ.2) kd = some (1, n) := (arr_congr kd rfl).trans ha
  show cellO ad ct _ kd ix = _
  rw [cell_1 ha']
  show _ = Sum.inl (ct.2.1, n, Sum.inl (upd (σ.1 kd ix) i.toNatClampNeg x))
  rw [← hset_eq]
theorem wds_map (st : List PV) : ((st.map (trV ad)).map fun v => v.category).sum = wds st := by
  unfold wds
  rw [List.map_map]
  congr 1
  apply List.map_congr_left
  intro v _
  exact trV_cat ad v
theorem jw_1 : Cond.native arraycopyName ∈ WL ∧ Cond.static arraycopyName ∈ WL ∧ Cond.initialized "java/lang/System" ∈ WL := ⟨by decide +kernel, by decide +kernel, by decide +kernel⟩
theorem jw_2 : Cond.static Lib.Math.max.name ∈ WL ∧ Cond.static Lib.Math.min.name ∈ WL ∧ Cond.static Lib.Math.abs.name ∈ WL ∧ Cond.initialized "java/lang/Math" ∈ WL := ⟨by decide +kernel, by decide +kernel, by decide +kernel, by decide +kernel⟩
theorem jw_3 : Cond.code Lib.Math.max.name Lib.Math.max.code 2 (some .int) ∈ WL ∧ Cond.code Lib.Math.min.name Lib.Math.min.code 2 (some .int) ∈ WL ∧ Cond.code Lib.Math.abs.name Lib.Math.abs.code 1 (some .int) ∈ WL := ⟨by decide +kernel, by decide +kernel, by decide +kernel⟩
theorem s_cpy (C : Cx D ct y p s m args c) (hw : Wd D ad ct s A σ H locs) (hl : Lr ad (mI y).2.1 LS ls) (ho : okL ls) {kd ix kd0 ix0 n0 n1 idx : Nat} {n dp sp : Int32} (hs : okS (.inl n :: .inl dp :: .inr (.inr (kd, ix)) :: .inl sp :: .inr (.inr (kd0, ix0)) :: r)) (ha0 : arr σ kd0 = some (0, n0)) (ha : arr σ kd = some (0, n1)) (hi : cpyOk sp dp n n0 n1) (hlink : Cond.methodLink (oN (mI y).2.2.2.1) idx arraycopyName ∈ WL) (hfr : 1 ≤ R.frames) (hlo : 26 ≤ R.locals) (hwd : wds r ≤ 8) (hdg : decode (mI y).1 pc = .ok (.invokestatic idx, 3))
    (k : KN p l e R s m args below meth c cells slots Q D ad ct A y (pc + 3) ls r (hrow σ.1 kd ix (va_cpy (σ.1 kd0 ix0) (σ.1 kd ix) sp.toNatClampNeg dp.toNatClampNeg n.toNatClampNeg), σ.2)) : W p l e R s m args below meth c H locs cells slots Q (F0 m pc LS ((.inl n :: .inl dp :: .inr (.inr (kd, ix)) :: .inl sp :: .inr (.inr (kd0, ix0)) :: r : List PV).map (trV ad))) := by
  obtain ⟨hx, hb, hml, hown, hts, hK⟩ := C
  have hs2 := okS.tl (okS.tl hs)
  have hlow := arr_low ha (by decide)
  have hin := arr_mut ha (by decide) (okS.hd hs2)
  have hin0 := arr_mut ha0 (by decide) (okS.hd (okS.tl (okS.tl hs2)))
  obtain ⟨q1, hq, hat⟩ := wsO_at ad ct hin
  obtain ⟨q0, hq0, hat0⟩ := wsO_at ad ct hin0
  have he := hat σ
  rw [cell_0 ha] at he
  have he0 := hat0 σ
  rw [cell_0 ha0] at he0
  obtain ⟨g1, g2, g3, g4, g5⟩ := hi
  refine va_copyi (ty := .int) hx hb (by rw [hml, hl.1.1]) hown (hts _ hlink) (hts _ jw_1.1) (hts _ jw_1.2.1) (hts _ jw_1.2.2) hK hw.1 hw.2.1 hw.2.2.1 q0 q1 0 0 he0 he rfl rfl rfl g1 g2 g3 g4 g5 (fun _ _ => rfl) hfr ?_ hdg (fun H1 locs1 h1 h2 h3 => ?_)
  · rw [wds_map]
    have h7 : nativeFrameWords "java/lang/System" "arraycopy" 5 = 7 := by decide
    omega
  · refine k H1 locs1 LS (Wd.set (σ' := (hrow σ.1 kd ix (va_cpy (σ.1 kd0 ix0) (σ.1 kd ix) sp.toNatClampNeg dp.toNatClampNeg n.toNatClampNeg), σ.2)) hw hq ?_ cell_hrow (hw.2.2.2.hrow (by omega)) h1 h2 h3) hl (okS.tl (okS.tl (okS.tl hs2))) ho
    have ha' : arr (hrow σ.1 kd ix (va_cpy (σ.1 kd0 ix0) (σ.1 kd ix) sp.toNatClampNeg dp.toNatClampNeg n.toNatClampNeg), σ.2) kd = some (0, n1) := (arr_congr kd rfl).trans ha
    show cellO ad ct _ kd ix = _
    rw [cell_0 ha']
    show Sum.inl (ct.1, n1, Sum.inl (hrow _ kd ix _ kd ix)) = _
    rw [hrow_eq]
end SIM
