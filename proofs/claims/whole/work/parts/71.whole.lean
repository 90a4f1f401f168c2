/-! THE CLAIM OUT OF ONE WALK OF THE LAW'S BODY. Your part is whole_start (and what it stands on); all else here is the same for every law, but numbers. -/
def R_law : String := "ThreeGapsLaw"
def lw_P (b : Addr) (xs : List Int32) (args : Array Value) (s : State) : Prop := args = #[.ref b] ∧ s.IntsAt b xs ∧ xs.length ≤ 2560 ∧ (Jvm.Cond.and given_1 narrow_1).before args s = true
def lw_Q (_ : Array Value) (s : State) (o : Outcome) (t : State) : Prop := o = .returned (some (.int 1)) ∧ Framed s o t [] 600000 7302250
def lw_Z (below : List Frame) (a : Array Value) (s : State) : State → Prop := fun t => ∃ o, t.status = .running ∧ Ended t below o ∧ lw_Q a s o t
/-- the law's own end, with 1 on the stack, nothing written that was there before, its room as the claim has it -/
theorem lw_ret {p : Program} {l : Launch} {e : Env} {s : State} {m : MethodId} {below : List Frame} {meth : Method} {c : Code} {b : Nat} (hx : p.tables.exec = Jvm.exec) (hb : c.code = code) (hr : meth.sig.returnType = ret) (hlocks : meth.locks = false) {pc : Nat} {H : Heap} {ls : Array Slot} (hdg : decode code pc = .ok (.ireturn, 1)) : W p l e room_1 s m #[Value.ref b] below meth c H [] 600000 7302250 (lw_Z below #[Value.ref b] s) (F0 m pc ls [.int 1]) := by
  intro T hT X
  obtain ⟨fs, hret, hrun, hended, hW, hframe⟩ := X.leave (v := some (.int 1)) (hlocks := hlocks) (fun h => by rw [hr] at h; cases h)
  have hmeth' : T.vm.method? m = some meth := X.method'
  refine ⟨T.setFrames fs, ?_, .returned (some (.int 1)), hrun, hended, rfl, ⟨_, rfl⟩, hW, hframe⟩
  jvm_step X.here [X.here.top, hx, hb, hdg, hmeth', hr, ret, narrow_b1]
  (try refine ⟨rfl, ?_⟩); (try refine ⟨rfl, ?_⟩)
  first | (intro acts; rw [hret _ acts rfl rfl rfl]) | rw [hret _ _ rfl rfl rfl]
  exact Steps.refl _
/-- what holds at the law's entry: the machine, the code, the tables' words (any of lw_tbl by 'hts w (by decide +kernel)'), the script of L ints xs at the cell b, what the Statement gives of the start (any of its parts by flat_of_before) -/
def lw_At (p : Program) (s : State) (m : MethodId) (meth : Method) (c : Code) (b L : Nat) (xs : Nat → Int32) : Prop :=
  p.tables.exec = Jvm.exec ∧ c.code = code ∧ meth.sig.returnType = ret ∧ c.maxLocals = 4 ∧ s.vm.findClass R_law = some m.cls ∧ (∀ w ∈ lw_tbl, w.before #[Value.ref b] s = true) ∧ va_X b L xs s s.heap ∧ b < s.heap.size ∧ meth.locks = false ∧ (Jvm.Cond.and given_1 narrow_1).before #[Value.ref b] s = true
theorem dl_0 : decode code 0 = .ok (.new 7, 3) := by decide +kernel
theorem dl_3 : decode code 3 = .ok (.dup, 1) := by decide +kernel
theorem dl_4 : decode code 4 = .ok (.invokespecial 9, 3) := by decide +kernel
theorem dl_7 : decode code 7 = .ok (.astore_n 1, 1) := by decide +kernel
theorem dl_8 : decode code 8 = .ok (.new 10, 3) := by decide +kernel
theorem dl_11 : decode code 11 = .ok (.dup, 1) := by decide +kernel
theorem dl_12 : decode code 12 = .ok (.invokespecial 12, 3) := by decide +kernel
theorem dl_15 : decode code 15 = .ok (.astore_n 2, 1) := by decide +kernel
theorem wmem {w : Cond} {i : Nat} (h : lw_tbl[i]? = some w) : w ∈ lw_tbl := List.mem_of_getElem? h
theorem arr_of {s : State} {args : Array Value} {ty : FieldType} (h : (Cond.arrayClass ty).before args s = true) : ∃ c : ClassId, s.vm.findClass ("[" ++ ty.toString) = some c ∧ ArrOfT s c ty := by
  obtain ⟨c, k, comp, h1, h2, h3⟩ := Cond.arrayClass_spec h
  exact ⟨c, h1, fun n z => ⟨fun k h => (by cases h), k, h2, comp, h3⟩⟩
theorem k_all {s : State} {args : Array Value} (hts : ∀ w ∈ lw_tbl, w.before args s = true) : ∃ (D : va_G) (ct : CT), va_K D vwCl (tysO ct) s := by
  obtain ⟨c0, i0, k0⟩ := u_known (C := RX0) (T := TX0) (N := 3) (n := 3) hts (fun w h => (lay_0 w h).1) (hts _ (wmem (i := 103) (by decide +kernel)))
  obtain ⟨c1, i1, k1⟩ := u_known (C := RX1) (T := TX1) (N := 2) (n := 2) hts (fun w h => (lay_1 w h).1) (hts _ (wmem (i := 64) (by decide +kernel)))
  obtain ⟨c2, i2, k2⟩ := u_known (C := RX2) (T := TX2) (N := 4) (n := 4) hts (fun w h => (lay_2 w h).1) (hts _ (wmem (i := 70) (by decide +kernel)))
  obtain ⟨c3, i3, k3⟩ := u_known (C := RX3) (T := TX3) (N := 4) (n := 4) hts (fun w h => (lay_3 w h).1) (hts _ (wmem (i := 140) (by decide +kernel)))
  obtain ⟨c4, i4, k4⟩ := u_known (C := RX4) (T := TX4) (N := 3) (n := 3) hts (fun w h => (lay_4 w h).1) (hts _ (wmem (i := 123) (by decide +kernel)))
  obtain ⟨c5, i5, k5⟩ := u_known (C := RX5) (T := TX5) (N := 8) (n := 8) hts (fun w h => (lay_5 w h).1) (hts _ (wmem (i := 56) (by decide +kernel)))
  obtain ⟨c6, i6, k6⟩ := u_known (C := RX6) (T := TX6) (N := 31) (n := 31) hts (fun w h => (lay_6 w h).1) (hts _ (wmem (i := 568) (by decide +kernel)))
  obtain ⟨a1, n1, r1⟩ := arr_of (hts (.arrayClass .int) (wmem (i := 94) (by decide +kernel)))
  obtain ⟨a2, n2, r2⟩ := arr_of (hts (.arrayClass .boolean) (wmem (i := 184) (by decide +kernel)))
  obtain ⟨comp, a3, k9, f1, f2, f3, f4, f5⟩ := Cond.arrayOver_spec (hts (.arrayOver (.object "ThreeGaps$Both")) (wmem (i := 109) (by decide +kernel)))
  refine ⟨(fun k => match k with | 0 => c0 | 1 => c1 | 2 => c2 | 3 => c3 | 4 => c4 | 5 => c5 | _ => c6, fun k => match k with | 0 => i0 | 1 => i1 | 2 => i2 | 3 => i3 | 4 => i4 | 5 => i5 | _ => i6), (a1, a2, a3), fun c q hq => ?_, fun k q hk => ?_⟩
  · have hc : c < 7 := (List.getElem?_eq_some_iff.mp hq).1
    match c, hc with
    | 0, _ => cases hq; exact k0
    | 1, _ => cases hq; exact k1
    | 2, _ => cases hq; exact k2
    | 3, _ => cases hq; exact k3
    | 4, _ => cases hq; exact k4
    | 5, _ => cases hq; exact k5
    | 6, _ => cases hq; exact k6
  · have hc : k < 3 := (List.getElem?_eq_some_iff.mp hk).1
    match k, hc with
    | 0, _ => cases hk; exact ⟨r1, n1⟩
    | 1, _ => cases hk; exact ⟨r2, n2⟩
    | 2, _ => cases hk; exact ⟨fun n z => ⟨fun k h => (by cases h), k9, f3, comp, f4⟩, k9, comp, f3, f4, f1, f5⟩
theorem nw_all {s : State} {args : Array Value} (hts : ∀ w ∈ lw_tbl, w.before args s = true) : NW s := ⟨va_Nw.of rfl (hts _ (wmem (i := 71) (by decide +kernel))), va_Nw.of rfl (hts _ (wmem (i := 65) (by decide +kernel))), va_Nw.of rfl (hts _ (wmem (i := 110) (by decide +kernel))), va_Nw.of rfl (hts _ (wmem (i := 124) (by decide +kernel))), va_Nw.of rfl (hts _ (wmem (i := 141) (by decide +kernel))), va_AO.of (hts _ (wmem (i := 109) (by decide +kernel)))⟩
theorem fac_at {s : State} {b : Nat} {A : Nat → Prop} (hts : ∀ w ∈ lw_tbl, w.before #[Value.ref b] s = true) (hgv : (Jvm.Cond.and given_1 narrow_1).before #[Value.ref b] s = true) (hA : ∀ a : Nat, a < s.heap.size → ¬ A a) : ∃ t : Nat, va_Z "ThreeGaps" "FACTORIALS" "[I" (.ref t) A s s.heap ∧ va_T .int t 5 (fun j => .int (nI (fcF j))) A s s.heap := by
  have hs := flat_of_before _ hgv
  have harr : (Cond.arrayOf (.static "ThreeGaps" "FACTORIALS" "[I") .int).before #[Value.ref b] s = true := hs _ (by decide +kernel)
  have hlen := va_eqt (t := .length (.static "ThreeGaps" "FACTORIALS" "[I")) (z := 5) (hs _ (by decide +kernel))
  have e0 := va_eqt (t := .elem (.static "ThreeGaps" "FACTORIALS" "[I") (.int 0)) (z := 1) (hs _ (by decide +kernel))
  have e1 := va_eqt (t := .elem (.static "ThreeGaps" "FACTORIALS" "[I") (.int 1)) (z := 1) (hs _ (by decide +kernel))
  have e2 := va_eqt (t := .elem (.static "ThreeGaps" "FACTORIALS" "[I") (.int 2)) (z := 2) (hs _ (by decide +kernel))
  have e3 := va_eqt (t := .elem (.static "ThreeGaps" "FACTORIALS" "[I") (.int 3)) (z := 6) (hs _ (by decide +kernel))
  have e4 := va_eqt (t := .elem (.static "ThreeGaps" "FACTORIALS" "[I") (.int 4)) (z := 24) (hs _ (by decide +kernel))
  have hel : ∀ j : Nat, j < 5 → (Term.elem (.static "ThreeGaps" "FACTORIALS" "[I") (.int (Int32.ofNat j))).eval #[Value.ref b] s none [] s = some (.int (nI (fcF j))) := by
    intro j hj
    match j, hj with
    | 0, _ => exact e0
    | 1, _ => exact e1
    | 2, _ => exact e2
    | 3, _ => exact e3
    | 4, _ => exact e4
  obtain ⟨t, ht, hT⟩ := va_Tof (N := 5) (f := fun j => .int (nI (fcF j))) (by decide) harr hlen hel hA
  exact ⟨t, va_Zref (hts (.laysStatic "ThreeGaps" "FACTORIALS" "[I") (wmem (i := 485) (by decide +kernel))) (hts (.initialized "ThreeGaps") (wmem (i := 45) (by decide +kernel))) ht hA, hT⟩
theorem lw_Lr {ad : Nat → Nat → Nat} {LS : Array Slot} {b q1 q2 : Nat} (hl : lv_has LS 4 [(2, .ref q2), (1, .ref q1), (0, .ref b)]) (h1 : ad 32 0 = b) (h2 : ad 5 0 = q1) (h3 : ad 6 0 = q2) : Lr ad 4 LS [some (.inr (.inr (32, 0))), some rT, some rMo, none] := by
  refine ⟨⟨hl.1, rfl⟩, hl.2.1, fun k v hk => ?_⟩
  match k, hk with
  | 0, hk => cases hk; rw [show trV ad (.inr (.inr (32, 0))) = .ref b from congrArg Value.ref h1]; exact lv_at hl 2 rfl
  | 1, hk => cases hk; rw [show trV ad rT = .ref q1 from congrArg Value.ref h2]; exact lv_at hl 1 rfl
  | 2, hk => cases hk; rw [show trV ad rMo = .ref q2 from congrArg Value.ref h3]; exact lv_at hl 0 rfl
  | 3, hk => cases hk
  | k + 4, hk => cases hk
theorem lw_okL : okL [some (.inr (.inr (32, 0))), some rT, some rMo, none] := by
  intro k v hk
  match k, hk with
  | 0, hk => cases hk; exact Or.inr (Or.inr rfl)
  | 1, hk => cases hk; exact Or.inl (allR_iff.mpr ⟨by decide, by decide⟩)
  | 2, hk => cases hk; exact Or.inl (allR_iff.mpr ⟨by decide, by decide⟩)
  | 3, hk => cases hk
  | k + 4, hk => cases hk
set_option maxRecDepth 100000 in
theorem whole_start {p : Program} {e : Env} {s : State} {m : MethodId} {below : List Frame} {meth : Method} {c : Code} (l : Launch) (hflags : l.flags = flags0) {b L : Nat} {xs : Nat → Int32} (hL : L ≤ 2560) (C0 : lw_At p s m meth c b L xs) : W p l e room_1 s m #[Value.ref b] below meth c s.heap [] 0 0 (lw_Z below #[Value.ref b] s) (entryFrame m ([Value.ref b] : List Value).toArray 4) := by
  obtain ⟨hx, hb, hr, hml, hown, hts, hX, hbl, hlocks, hgv⟩ := C0
  obtain ⟨D, ct, hK⟩ := k_all hts
  have hN := nw_all hts
  obtain ⟨t, hZ, hT⟩ := fac_at (A := fun q => s.heap.size ≤ q) hts hgv (fun a h h2 => absurd h2 (Nat.not_le.mpr h))
  have hA : ∀ q, s.heap.size ≤ q → (fun q => s.heap.size ≤ q) q := fun q h => h
  have C : Ic D ct code 4 8 p s m #[Value.ref b] c := ⟨hx, hb, hml, hown, fun w hw => hts w (List.mem_filter.mp hw).1, hK, hN⟩
  have hl := lv_entry ([.ref b]) (n := 4) (Nat.le_of_ble_eq_true rfl)
  rw [lg_entry_eq]
  generalize (lg_sl ([.ref b]) ++ List.replicate (4 - (lg_sl ([.ref b])).length) Slot.unset).toArray = ls at hl ⊢
  have hl : lv_has ls 4 [(0, .ref b)] := hl
  have hw : Iw D s (fun q => s.heap.size ≤ q) [] s.heap [] := ⟨fun k q h => (by cases h), ⟨fun i j p q h => (by cases h), fun k q h => (by cases h)⟩, va_S.rf⟩
  refine i_new C hA hw 5 8 tyX5 rfl (fun w h => List.mem_filter.mpr (lay_5 w h)) tyX5_ok (WL_of (i := 55) (by decide +kernel) rfl) (WL_of (i := 56) (by decide +kernel) rfl) (WL_of (i := 45) (by decide +kernel) rfl) df_5 (Nat.le_of_ble_eq_true rfl) (Nat.le_of_ble_eq_true rfl) dl_0 (fun q1 H hw => ?_)
  refine lv_dup C.1 C.2.1 dl_3 rfl ?_
  refine i_callI (ws := []) C hA hw (mi_5 l D ct) (WL_of (i := 59) (by decide +kernel) rfl) (WL_of (i := 58) (by decide +kernel) rfl) (WL_of (i := 45) (by decide +kernel) rfl) (WL_of (i := 57) (by decide +kernel) rfl) (by decide +kernel) rfl (Nat.le_of_ble_eq_true rfl) (Nat.le_of_ble_eq_true rfl) hl.1 (Nat.le_of_ble_eq_true rfl) (Nat.le_of_ble_eq_true rfl) (Nat.le_of_ble_eq_true rfl) dl_4 (fun u H locs hw => ?_)
  refine lv_astore_n C.1 C.2.1 dl_7 rfl hl (by decide) rfl (fun ls hl => ?_)
  refine i_new C hA hw 6 31 tyX6 rfl (fun w h => List.mem_filter.mpr (lay_6 w h)) tyX6_ok (WL_of (i := 567) (by decide +kernel) rfl) (WL_of (i := 568) (by decide +kernel) rfl) (WL_of (i := 51) (by decide +kernel) rfl) df_6 (Nat.le_of_ble_eq_true rfl) (Nat.le_of_ble_eq_true rfl) dl_8 (fun q2 H hw => ?_)
  refine lv_dup C.1 C.2.1 dl_11 rfl ?_
  refine i_callI (ws := [] ++ tgW ct q1 u) C hA hw (mi_6 l D ct) (WL_of (i := 571) (by decide +kernel) rfl) (WL_of (i := 570) (by decide +kernel) rfl) (WL_of (i := 51) (by decide +kernel) rfl) (WL_of (i := 569) (by decide +kernel) rfl) (by decide +kernel) rfl (Nat.le_of_ble_eq_true rfl) (Nat.le_of_ble_eq_true rfl) hl.1 (Nat.le_of_ble_eq_true rfl) (Nat.le_of_ble_eq_true rfl) (Nat.le_of_ble_eq_true rfl) dl_12 (fun f6 H locs hw => ?_)
  refine lv_astore_n C.1 C.2.1 dl_15 rfl hl (by decide) rfl (fun ls hl => ?_)
  have hw := to_wd ct q1 q2 u f6 t b L xs hw
  obtain ⟨n, r, σ', hrun, rfl⟩ := lw_all hL (gd0 L xs)
  have hWd : Wd D (adW q1 q2 u f6 t b) ct s (fun q => s.heap.size ≤ q) (hp0 L xs) H locs := ⟨hw.1, hw.2.1, hw.2.2, hZ, hT, hX, hbl, Nat.not_le.mpr hbl⟩
  refine simAll n 159 16 [some (.inr (.inr (32, 0))), some rT, some rMo, none] [] (hp0 L xs) (some (.inl 1)) σ' hrun p l e room_1 s m #[Value.ref b] below meth c H locs _ _ _ D (adW q1 q2 u f6 t b) ct (fun q => s.heap.size ≤ q) ls ⟨hx, hb, hml, hown, C.2.2.2.2.1, hK⟩ ⟨Nat.le_of_ble_eq_true rfl, Nat.le_of_ble_eq_true rfl, Nat.le_of_ble_eq_true rfl, Nat.le_of_ble_eq_true rfl⟩ hA hWd (lw_Lr hl rfl rfl rfl) (fun v h => by cases h) lw_okL ?_
  intro H' locs' LS' pcr hret _ hw'
  refine va_forget (fun q hq => hw'.2.2.1.2.2 q hq) ?_
  refine W.widen (k := 600000) (n := 7302250) (Nat.le_of_ble_eq_true rfl) (Nat.le_of_ble_eq_true rfl) ?_
  exact lw_ret hx hb hr hlocks hret.1
set_option maxHeartbeats 4000000 in
theorem lw_walk (l : Launch) (hflags : l.flags = flags0) (b : Addr) (xs : List Int32) : MetFree l x (headSpec (Jvm.Cond.code x code maxLocals ret :: tables_1) room_1) (lw_P b xs) (fun _ _ _ _ _ => True) lw_Q := by
  refine MetFree.of_bodyS (code := code) (maxLocals := maxLocals) (ret := ret) (by decide) ?_ ?_
  · intro args s m h hn
    obtain ⟨meth, c, h1, h2, h3, h4, h5, h6, -, -⟩ := Cond.code_spec hn (atoms_spec (ws := Jvm.Cond.code x code maxLocals ret :: tables_1) h _ List.mem_cons_self)
    exact ⟨meth, c, h1, h2, h3, h4, h5, h6⟩
  · intro p e s m args below meth c s₁ B hml0 hP _
    obtain ⟨rfl, hx, hbd, hgv⟩ := hP
    obtain ⟨scr, harrAt, hlist, hof, hsmall⟩ := hx
    obtain ⟨hcb, hkn, -, -⟩ := State.arrayAt?_spec harrAt
    have hown : s.vm.findClass R_law = some m.cls := findClass_of_methodNamed B.named
    have hts0 : ∀ c ∈ (Jvm.Cond.code x code maxLocals ret :: tables_1), c.before #[Value.ref b] s = true := atoms_spec (ws := Jvm.Cond.code x code maxLocals ret :: tables_1) B.pre
    have hts : ∀ w ∈ lw_tbl, w.before #[Value.ref b] s = true := k2_hts_sels lw_privs (fun w hw => hts0 w (List.mem_cons_of_mem _ hw)) lw_privs_ok
    have hml : c.maxLocals = 4 := B.maxLocals_eq (hts0 _ List.mem_cons_self)
    have X₀ : Stand p l e room_1 s m #[Value.ref b] below meth c s₁ [] 0 0 := Stand.of_body B
    have hh0 : s₁.heap = s.heap := by rw [B.state]; rfl
    have hsz : scr.slots.size = xs.length := by rw [← Array.length_toList, hlist, List.length_map]
    have hval : ∀ j : Nat, j < xs.length → scr.slots[j]? = some (.int (xs.getD j 0)) := fun j hj => by
      rw [← Array.getElem?_toList, hlist]
      simp [hj]
    have hbl : b < s.heap.size := (Array.getElem?_eq_some_iff.mp hcb).1
    have hX : va_X b xs.length (fun j => xs.getD j 0) s s.heap := ⟨scr, hcb, hof, hkn, hsz, hval⟩
    have K : W p l e room_1 s m #[Value.ref b] below meth c s₁.heap [] 0 0 (lw_Z below #[Value.ref b] s) (entryFrame m ([Value.ref b] : List Value).toArray 4) := by
      rw [hh0]
      exact whole_start l hflags hbd ⟨B.exec, B.bytes, B.returns, hml, hown, hts, hX, hbl, B.notSynchronized, hgv⟩
    obtain ⟨t, a1, o, b1, b2, b3⟩ := K s₁ rfl X₀
    exact ⟨t, o, a1, b1, b2, b3⟩
theorem lw_pre_spec {args : Array Value} {s : State} (h : (Jvm.Cond.and given_1 narrow_1).before args s = true) (hr : rest_1_c.before args s = true) : ∃ (b : Addr) (xs : List Int32), lw_P b xs args s := by
  have hs := flat_of_before _ h
  have hq := flat_of_before _ hr
  have hc : (Cond.count 1).before args s = true := hs _ (by decide +kernel)
  have harr : (Cond.arrayOf (.arg 0) .int).before args s = true := hs _ (by decide +kernel)
  have hle : (Cond.le (.length (.arg 0)) (.int 2560)).before args s = true := hs _ (by decide +kernel)
  have hlen : (Cond.isInt (.length (.arg 0))).before args s = true := hq _ (by decide +kernel)
  have hall : (Cond.all (.arg 0) (.isInt (.elem (.arg 0) (.index 0)))).before args s = true := hq _ (by decide +kernel)
  obtain ⟨b, xs, hb, hx⟩ := State.ints_of_pre rfl harr hlen hall
  have hsm : xs.length < 2 ^ 31 := hx.choose_spec.2.2.2
  have hev : (Term.length (.arg 0)).eval args s none [] s = some (.int xs.length.toInt32) := hx.length_eval hb
  have hv := Cond.le_ints hev (show (Term.int 2560).eval args s none [] s = some (.int 2560) from rfl)
  have hd : xs.length.toInt32 ≤ 2560 := by
    simpa [Cond.before, Cond.holds, hv] using hle
  have hN : xs.length ≤ 2560 := (Int32.ofNat_le_ofNat hsm (by decide)).mp (show Int32.ofNat xs.length ≤ Int32.ofNat 2560 from hd)
  exact ⟨b, xs, Cond.one_arg hc (show args[0]? = some (.ref b) from hb), hx, hN, h⟩
theorem lw_comes (l : Launch) (hflags : l.flags = flags0) : Comes l x (Jvm.Cond.code x code maxLocals ret :: tables_1) room_1 (fun tb e args s => Calls_1 tb e args s ∧ rest_1 tb e args s ∧ Pre_1 tb e args s)
    (fun _ _ args s o t => lw_Q args s o t) := by
  intro p e ha hc hk s m args below hf hfit hheap happ hpre
  obtain ⟨b, xs, hP⟩ := lw_pre_spec hpre.2.2 hpre.2.1
  obtain ⟨k, o, h1, h2, h3, hQ⟩ := lw_walk l hflags b xs p e ha hc hk s m args below hf ((Spec.applies_iff_loose hf).mp happ).1 hP trivial
  exact ⟨k, o, h1, h2, h3, hQ⟩
theorem lw_frame {s t : State} {o : Outcome} {args : Array Value} (h : Framed s o t [] 600000 7302250) :
    Framed s o t (fieldLocs frame_1_writes args s ++ arrayLocs frame_1_arrays args s ++ staticLocs frame_1_statics s) 600000 7302250 := h
theorem lw_limb (L : Cond) (hL : ∀ (args : Array Value) (s t : State), L.after args s (.returned (some (.int 1))) t = true) :
    ArmFor flags0 classFile x code maxLocals ret World_1 tables_1 room_1 Calls_1 rest_1 Pre_1
      (fun tb e a s o t => postC L tb e a s o t ∧ Framed s o t (fieldLocs frame_1_writes a s ++ arrayLocs frame_1_arrays a s ++ staticLocs frame_1_statics s) 600000 7302250) := by
  intro l hflags _ _ p e ha hc hk s m args below hf hfit hheap happ hpre
  obtain ⟨k, o, h1, h2, h3, rfl, hF⟩ := lw_comes l hflags p e ha hc hk s m args below hf hfit hheap happ hpre
  exact ⟨k, _, h1, h2, h3, hL args s _, lw_frame hF⟩
theorem i_vc : Claimed_1_1 ∧ Claimed_1_2 := ⟨lw_limb limb_1_1 (fun args s t => by simp [limb_1_1, Cond.after, Cond.holds, Cond.value]), lw_limb limb_1_2 (fun args s t => Cond.after_iff.mpr (by
  first | (rw [show limb_1_2 = Cond.eq .result (.int 1) from rfl, Cond.eq_ints (x := 1) (y := 1) rfl rfl]; simp; done) | (simp [limb_1_2, Cond.value, Term.eval]; done)))⟩
