/-! Making objects: worlds that grow at their end. -/
theorem va_P.pm {D : va_G} {cl : List vw_C} {ws ws' : va_W} {H : Heap} (hp : ∀ q ∈ ws', q ∈ ws) (h : va_P D cl ws H) : va_P D cl ws' H := fun k q hk => by
  obtain ⟨i, hi⟩ := List.getElem?_of_mem (hp q (List.mem_of_getElem? hk))
  exact h i q hi
theorem va_D.nd {A : Nat → Prop} {ws : va_W} (h : va_D A ws) : (ws.map (·.1)).Nodup := by
  rw [List.nodup_iff_pairwise_ne, List.pairwise_iff_getElem]
  intro i j hi hj hij e
  simp only [List.length_map] at hi hj
  simp only [List.getElem_map] at e
  have := h.1 i j _ _ (List.getElem?_eq_getElem hi) (List.getElem?_eq_getElem hj) e
  omega
theorem va_D.of {A : Nat → Prop} {ws : va_W} (h : (ws.map (·.1)).Nodup) (hA : ∀ q ∈ ws, A q.1) : va_D A ws := by
  refine ⟨fun i j p q hi hj e => ?_, fun k q hk => hA q (List.mem_of_getElem? hk)⟩
  have hl := (List.getElem?_eq_some_iff.mp hi).1
  refine (List.getElem?_inj (by simpa using hl) h).mp ?_
  simp [hi, hj, e]
theorem va_D.pm {A : Nat → Prop} {ws ws' : va_W} (hp : ws'.Perm ws) (h : va_D A ws) : va_D A ws' := va_D.of ((hp.map (·.1)).nodup_iff.mpr h.nd) (fun q hq => by
  obtain ⟨i, hi⟩ := List.getElem?_of_mem (hp.mem_iff.mp hq)
  exact h.2 i q hi)
theorem va_at.lt' {D : va_G} {cl : List vw_C} {q : Nat × va_E} {ws : va_W} {H : Heap} (h : va_P D cl ws H) (hq : q ∈ ws) : q.1 < H.size := by
  obtain ⟨i, hi⟩ := List.getElem?_of_mem hq
  exact (h i q hi).lt
/-- behind a call on the last cell: the others, and what the call laid -/
theorem join_end {D : va_G} {cl : List vw_C} {A : Nat → Prop} {ws w1 : va_W} {q : Nat} {e : va_E} {H H1 : Heap} (hP : va_P D cl (ws ++ [(q, e)]) H) (hD : va_D A (ws ++ [(q, e)])) (hk : ∀ x : Nat, x < H.size → ¬ va_A [(q, e)] H.size x → H1[x]? = H[x]?) (hF : ∀ x, va_A [(q, e)] H.size x → A x) (hP1 : va_P D cl w1 H1) (hD1 : va_D (va_A [(q, e)] H.size) w1) : va_P D cl (ws ++ w1) H1 ∧ va_D A (ws ++ w1) := by
  have apart : ∀ (i : Nat) (x : Nat × va_E), ws[i]? = some x → x.1 < H.size ∧ ¬ va_A [(q, e)] H.size x.1 := by
    intro i x hx
    have hlen := (List.getElem?_eq_some_iff.mp hx).1
    have h2 : (ws ++ [(q, e)])[i]? = some x := by rw [List.getElem?_append_left hlen]; exact hx
    have hl := (hP i x h2).lt
    refine ⟨hl, fun h => ?_⟩
    rcases h with ⟨k, e2, h⟩ | h
    · have h3 : k < 1 := (List.getElem?_eq_some_iff.mp h).1
      have h4 : k = 0 := by omega
      subst h4
      cases h
      have h5 : (ws ++ [(x.1, e)])[ws.length]? = some (x.1, e) := by rw [List.getElem?_append_right (Nat.le_refl _)]; simp
      have := hD.1 i ws.length x (x.1, e) h2 h5 rfl
      omega
    · omega
  refine ⟨va_P.app (fun i x hx => ?_) hP1, va_D.app ⟨fun i j x y hx hy e2 => ?_, fun i x hx => ?_⟩ (hD1.weaken (fun _ x _ h => hF x.1 h)) (fun i j x y hx hy e2 => ?_)⟩
  · have hlen := (List.getElem?_eq_some_iff.mp hx).1
    have h2 : (ws ++ [(q, e)])[i]? = some x := by rw [List.getElem?_append_left hlen]; exact hx
    exact (hP i x h2).kept (hk _ (apart i x hx).1 (apart i x hx).2)
  · have h1 := (List.getElem?_eq_some_iff.mp hx).1
    have h2 := (List.getElem?_eq_some_iff.mp hy).1
    exact hD.1 i j x y (by rw [List.getElem?_append_left h1]; exact hx) (by rw [List.getElem?_append_left h2]; exact hy) e2
  · have h1 := (List.getElem?_eq_some_iff.mp hx).1
    exact hD.2 i x (by rw [List.getElem?_append_left h1]; exact hx)
  · exact (apart i x hx).2 (by rw [e2]; exact hD1.2 j y hy)
theorem ra_uniq {s : State} {a b : ClassId} {ty : FieldType} (h1 : va_RA s a ty) (h2 : va_RA s b ty) : a = b := by
  cases ty with
  | object C =>
    obtain ⟨_, _, -, -, -, h3⟩ := h1
    obtain ⟨_, _, -, -, -, h4⟩ := h2
    exact Option.some.inj (h3.symm.trans h4)
  | _ =>
    have h3 : s.vm.findClass _ = some a := h1
    have h4 : s.vm.findClass _ = some b := h2
    exact Option.some.inj (h3.symm.trans h4)
/-- what the tables say of calls between nest mates, and of arrays of Boths -/
def NW (U : State) : Prop := va_Nw (.methodLinkNest (oN 1) 9 yX2_init "ThreeGaps") U ∧ va_Nw (.methodLinkNest (oN 5) 9 yX1_init "ThreeGaps") U ∧ va_Nw (.methodLinkNest (oN 0) 22 yX1_init "ThreeGaps") U ∧ va_Nw (.methodLinkNest (oN 5) 28 yX4_init "ThreeGaps") U ∧ va_Nw (.methodLinkNest (oN 5) 35 yX3_init "ThreeGaps") U ∧ va_AO "ThreeGaps$Both" U
theorem NW.warm {s U : State} (hW : s.WarmedH U.vm) (h : NW s) : NW U := ⟨h.1.warmM hW, h.2.1.warmM hW, h.2.2.1.warmM hW, h.2.2.2.1.warmM hW, h.2.2.2.2.1.warmM hW, h.2.2.2.2.2.moved hW.alike⟩
theorem NW.same {u U : State} (e : u.vm = U.vm) (h : NW u) : NW U := ⟨h.1.same rfl e, h.2.1.same rfl e, h.2.2.1.same rfl e, h.2.2.2.1.same rfl e, h.2.2.2.2.1.same rfl e, h.2.2.2.2.2.moved (by rw [e]; exact Vm.Alike.refl _)⟩
theorem w_arrI : Cond.arrayClass .int ∈ WL := WL_of (i := 94) (by decide +kernel) rfl
theorem w_arrZ : Cond.arrayClass .boolean ∈ WL := WL_of (i := 184) (by decide +kernel) rfl
theorem w_oi : Cond.instanceMethod objectInit ∈ WL := WL_of (i := 61) (by decide +kernel) rfl
theorem w_oc : Cond.code objectInit ⟨#[0xb1]⟩ 1 none ∈ WL := WL_of (i := 62) (by decide +kernel) rfl
/-- the surroundings of a frame that makes objects -/
def Ic (D : va_G) (ct : CT) (cc : ByteArray) (nL o : Nat) (p : Program) (s : State) (m : MethodId) (args : Array Value) (c : Code) : Prop :=
  p.tables.exec = Jvm.exec ∧ c.code = cc ∧ c.maxLocals = nL ∧ s.vm.findClass (oN o) = some m.cls ∧ (∀ w ∈ WL, w.before args s = true) ∧ va_K D vwCl (tysO ct) s ∧ NW s
def Iw (D : va_G) (s : State) (A : Nat → Prop) (ws : va_W) (H : Heap) (locs : List Loc) : Prop := va_P D vwCl ws H ∧ va_D A ws ∧ va_S A s.heap H locs
abbrev aI (c : ClassId) (n : Nat) : va_E := .inl (c, n, .inl (fun _ => 0))
abbrev aQ (c : ClassId) (n : Nat) (f : Nat → Option Nat) : va_E := .inl (c, n, .inr (.inr (.inr (.inr f))))
section MK
variable {p : Program} {l : Launch} {e : Env} {R : Room} {s : State} {m : MethodId} {args : Array Value} {below : List Frame} {meth : Method} {c : Code} {H : Heap} {locs : List Loc} {cells slots : Nat} {Q : State → Prop}
variable {cc : ByteArray} {nL o pc : Nat} {ls : Array Slot} {rest : List Value} {D : va_G} {A : Nat → Prop} {ct : CT} {ws : va_W}
theorem i_newI (C : Ic D ct cc nL o p s m args c) (hA : ∀ q, s.heap.size ≤ q → A q) (hw : Iw D s A ws H locs) {n : Int32} (N : Nat) (hn : ¬ n < 0) (hN : n.toNatClampNeg = N) (hb : N * 4 ≤ 536870912) (hc : cells + 1 ≤ R.cells) (hs : slots + N ≤ R.slots) (hdg : decode cc pc = .ok (.newarray .int, 2))
    (kk : ∀ (q : Nat) (H1 : Heap), Iw D s A (ws ++ [(q, aI ct.1 N)]) H1 locs → W p l e R s m args below meth c H1 locs (cells + 1) (slots + N) Q (F0 m (pc + 2) ls (.ref q :: rest))) : W p l e R s m args below meth c H locs cells slots Q (F0 m pc ls (.int n :: rest)) := by
  refine va_newa (atype := .int) (ty := .int) C.1 C.2.1 (C.2.2.2.2.1 _ w_arrI) rfl C.2.2.2.2.2.1 hw.1 hw.2.1 hw.2.2 hA (a0 := (N, .inl (fun _ => 0))) (fun cA => rfl) hn hN hb hc hs hdg (fun q cA H1 hK hP hD hS => ?_)
  have e1 : cA = ct.1 := ra_uniq (hK.2 3 _ rfl).2 (hK.2 0 _ rfl).2
  subst e1
  exact kk q H1 ⟨hP, hD, hS⟩
theorem i_newZ (C : Ic D ct cc nL o p s m args c) (hA : ∀ q, s.heap.size ≤ q → A q) (hw : Iw D s A ws H locs) {n : Int32} (N : Nat) (hn : ¬ n < 0) (hN : n.toNatClampNeg = N) (hb : N * 1 ≤ 536870912) (hc : cells + 1 ≤ R.cells) (hs : slots + N ≤ R.slots) (hdg : decode cc pc = .ok (.newarray .boolean, 2))
    (kk : ∀ (q : Nat) (H1 : Heap), Iw D s A (ws ++ [(q, aI ct.2.1 N)]) H1 locs → W p l e R s m args below meth c H1 locs (cells + 1) (slots + N) Q (F0 m (pc + 2) ls (.ref q :: rest))) : W p l e R s m args below meth c H locs cells slots Q (F0 m pc ls (.int n :: rest)) := by
  refine va_newa (atype := .boolean) (ty := .boolean) C.1 C.2.1 (C.2.2.2.2.1 _ w_arrZ) rfl C.2.2.2.2.2.1 hw.1 hw.2.1 hw.2.2 hA (a0 := (N, .inl (fun _ => 0))) (fun cA => rfl) hn hN hb hc hs hdg (fun q cA H1 hK hP hD hS => ?_)
  have e1 : cA = ct.2.1 := ra_uniq (hK.2 3 _ rfl).2 (hK.2 1 _ rfl).2
  subst e1
  exact kk q H1 ⟨hP, hD, hS⟩
theorem i_newQ (C : Ic D ct cc nL o p s m args c) (hA : ∀ q, s.heap.size ≤ q → A q) (hw : Iw D s A ws H locs) {n : Int32} {idx : Nat} (N : Nat) (hcl : Cond.classLink (oN o) idx "ThreeGaps$Both" ∈ WL) (hn : ¬ n < 0) (hN : n.toNatClampNeg = N) (hb : N * 4 ≤ 536870912) (hc : cells + 1 ≤ R.cells) (hs : slots + N ≤ R.slots) (hdg : decode cc pc = .ok (.anewarray idx, 3))
    (kk : ∀ (q : Nat) (H1 : Heap), Iw D s A (ws ++ [(q, aQ ct.2.2 N (fun _ => none))]) H1 locs → W p l e R s m args below meth c H1 locs (cells + 1) (slots + N) Q (F0 m (pc + 3) ls (.ref q :: rest))) : W p l e R s m args below meth c H locs cells slots Q (F0 m pc ls (.int n :: rest)) := by
  refine va_newq C.1 C.2.1 C.2.2.2.1 (C.2.2.2.2.1 _ hcl) C.2.2.2.2.2.2.2.2.2.2.2 C.2.2.2.2.2.1 hw.1 hw.2.1 hw.2.2 hA hn hN hb hc hs hdg (fun q cA H1 hK hP hD hS => ?_)
  have e1 : cA = ct.2.2 := ra_uniq (hK.2 3 _ rfl).2 (hK.2 2 _ rfl).2
  subst e1
  exact kk q H1 ⟨hP, hD, hS⟩
/-- the default of a field's value -/
def dfs (a : Nat) : List Value := match a with
  | 0 => [.null, .int 0, .int 0]
  | 1 => [.null, .null]
  | 2 => [.null, .null, .null, .int 0]
  | 3 => [.null, .null, .null, .int 0]
  | 4 => [.null, .null, .int 0]
  | 5 => [.null, .null, .null, .null, .null, .null, .null, .long 0]
  | _ => [.int 0, .null, .int 0, .int 0, .null, .int 0, .int 0, .null, .null, .null, .null, .int 0, .null, .null, .int 0, .null, .null, .null, .long 0, .int 0, .int 0, .int 0, .int 0, .int 0, .int 0, .int 0, .int 0, .int 0, .int 0, .null, .null]
theorem i_new (C : Ic D ct cc nL o p s m args c) (hA : ∀ q, s.heap.size ≤ q → A q) (hw : Iw D s A ws H locs) {idx : Nat} (a N : Nat) (ty : Nat → FieldType) (hc : vwCl[a]? = some (oN a, tN a, N)) (hlay : ∀ w ∈ u_ws (oN a) (tN a) N, w ∈ WL) (hty : ∀ k, k < N → parseFieldDescriptor (tN a k).2.2.1 = some (ty k)) (hcl : Cond.classLink (oN o) idx (oN a) ∈ WL) (hinst : Cond.instantiable (oN a) N ∈ WL) (hini : Cond.initialized (oN a) ∈ WL) (hfs : ∀ j, j < N → defaultValue (ty j) = vp_V (dfs a) j) (hcc : cells + 1 ≤ R.cells) (hss : slots + N ≤ R.slots) (hdg : decode cc pc = .ok (.new idx, 3))
    (kk : ∀ (q : Nat) (H1 : Heap), Iw D s A (ws ++ [(q, .inr (a, dfs a))]) H1 locs → W p l e R s m args below meth c H1 locs (cells + 1) (slots + N) Q (F0 m (pc + 3) ls (.ref q :: rest))) : W p l e R s m args below meth c H locs cells slots Q (F0 m pc ls rest) :=
  va_new C.1 C.2.1 C.2.2.2.2.1 hlay ty hty C.2.2.2.1 (C.2.2.2.2.1 _ hcl) (C.2.2.2.2.1 _ hinst) (C.2.2.2.2.1 _ hini) C.2.2.2.2.2.1 hw.1 hw.2.1 hw.2.2 hA hc hfs hcc hss hdg (fun q H1 hP hD hS => kk q H1 ⟨hP, hD, hS⟩)
/-- a final field of the object that is made -/
theorem i_putF (C : Ic D ct cc nL o p s m args c) (hin : meth.name = "<init>") {h0 idx k : Nat} {fs : List Value} {v : Value} (hw : Iw D s A ((h0, .inr (o, fs)) :: ws) H locs) (ho : o < 7) (hlink : Cond.fieldLink (oN o) idx (tN o k).1 (tN o k).2.1 (tN o k).2.2.1 ∈ WL) (hk : k < (ftab.getD o []).length) (hfin : (tN o k).2.2.2 = true) (hdecl : (tN o k).1 = oN o) {ty : FieldType} (hd : parseFieldDescriptor (tN o k).2.2.1 = some ty) (hn : narrow ty v = v) (hfit : fits ty v = true) (hl : k < fs.length) (hdg : decode cc pc = .ok (.putfield idx, 3))
    (kk : ∀ (H1 : Heap) (locs1 : List Loc), Iw D s A ((h0, .inr (o, fs.set k v)) :: ws) H1 locs1 → W p l e R s m args below meth c H1 locs1 cells slots Q (F0 m (pc + 3) ls rest)) : W p l e R s m args below meth c H locs cells slots Q (F0 m pc ls (v :: .ref h0 :: rest)) := by
  obtain ⟨N, ty0, c1, c2, c3, c4, c5, -⟩ := cls_ok o ho
  exact va_putF C.1 C.2.1 C.2.2.2.2.1 c2 ty0 c3 c4 C.2.2.2.1 C.2.2.2.2.2.1 hw.1 hw.2.1 hw.2.2 0 rfl c1 k (by rw [c5]; exact hk) (C.2.2.2.2.1 _ hlink) (fun _ h9 => h9) hfin hin hdecl hd hn hfit hl hdg (fun H1 locs1 hP hD hS => kk H1 locs1 ⟨hP, hD, hS⟩)
theorem i_put (C : Ic D ct cc nL o p s m args c) {h0 idx k : Nat} {fs : List Value} {v : Value} (hw : Iw D s A ((h0, .inr (o, fs)) :: ws) H locs) (ho : o < 7) (hlink : Cond.fieldLink (oN o) idx (tN o k).1 (tN o k).2.1 (tN o k).2.2.1 ∈ WL) (hk : k < (ftab.getD o []).length) (hfin : (tN o k).2.2.2 = false) {ty : FieldType} (hd : parseFieldDescriptor (tN o k).2.2.1 = some ty) (hn : narrow ty v = v) (hfit : fits ty v = true) (hl : k < fs.length) (hdg : decode cc pc = .ok (.putfield idx, 3))
    (kk : ∀ (H1 : Heap) (locs1 : List Loc), Iw D s A ((h0, .inr (o, fs.set k v)) :: ws) H1 locs1 → W p l e R s m args below meth c H1 locs1 cells slots Q (F0 m (pc + 3) ls rest)) : W p l e R s m args below meth c H locs cells slots Q (F0 m pc ls (v :: .ref h0 :: rest)) := by
  obtain ⟨N, ty0, c1, c2, c3, c4, c5, -⟩ := cls_ok o ho
  exact va_put C.1 C.2.1 C.2.2.2.2.1 c2 ty0 c3 c4 C.2.2.2.1 C.2.2.2.2.2.1 hw.1 hw.2.1 hw.2.2 0 rfl c1 k (by rw [c5]; exact hk) (C.2.2.2.2.1 _ hlink) (fun _ h9 => h9) hfin hd hn hfit hl hdg (fun H1 locs1 hP hD hS => kk H1 locs1 ⟨hP, hD, hS⟩)
theorem i_obj (C : Ic D ct cc nL o p s m args c) {idx h0 : Nat} (hsz : ls.size = nL) (hlink : Cond.methodLink (oN o) idx objectInit ∈ WL) (hd : decode cc pc = .ok (.invokespecial idx, 3)) (hf : 1 ≤ R.frames) (hlo : 12 ≤ R.locals)
    (kk : W p l e R s m args below meth c H locs cells slots Q (F0 m (pc + 3) ls [])) : W p l e R s m args below meth c H locs cells slots Q (F0 m pc ls [.ref h0]) :=
  W.objInit C.1 C.2.1 C.2.2.2.1 (C.2.2.2.2.1 _ hlink) (C.2.2.2.2.1 _ w_oi) (C.2.2.2.2.1 _ w_oc) rfl (by rw [C.2.2.1]; exact hsz) rfl hd hf hlo kk
end MK
/-! a constructor's contract -/
def PcI (D : va_G) (ct : CT) (a h0 sz : Nat) : Array Value → State → Prop := va_Pc [.ref h0] (fun U => U.heap.size = sz ∧ va_P D vwCl [(h0, .inr (a, dfs a))] U.heap ∧ va_K D vwCl (tysO ct) U ∧ NW U)
def AI (a h0 sz : Nat) : Nat → Prop := va_A [(h0, .inr (a, dfs a))] sz
def QcI {S : Type} (D : va_G) (WI : Nat → S → va_W) (a h0 sz : Nat) : Array Value → State → Outcome → State → Prop := va_Qv (fun _ : S => True) (fun f t => va_P D vwCl (WI h0 f) t.heap ∧ va_D (AI a h0 sz) (WI h0 f)) (AI a h0 sz)
def MI {S : Type} (l : Launch) (D : va_G) (ct : CT) (y : MethodName) (bytes : ByteArray) (maxL a : Nat) (rm : Room) (WI : Nat → S → va_W) : Prop := ∀ h0 sz, Met l y (Cond.code y bytes maxL none :: WL) rm (PcI D ct a h0 sz) (QcI D WI a h0 sz) rm.cells rm.slots (AI a h0 sz)
theorem one_D {A : Nat → Prop} {q : Nat × va_E} (h : A q.1) : va_D A [q] := va_D.of (by simp) (fun x hx => by
  rw [List.mem_singleton.mp hx]
  exact h)
theorem met_init {S : Type} {l : Launch} {D : va_G} {ct : CT} {y : MethodName} {bytes : ByteArray} {maxL a : Nat} {rm : Room} {WI : Nat → S → va_W} (hpl : plainName y.cls = true) (hcls : y.cls = oN a) (hnm : y.name = "<init>") (hlen : Nat.ble 1 maxL = true)
    (walk : ∀ (h0 : Nat) (p : Program) (e : Env) (s : State) (m : MethodId) (below : List Frame) (meth : Method) (c : Code) (A : Nat → Prop) (ls : Array Slot) (Q : State → Prop), Ic D ct bytes maxL a p s m ([Value.ref h0] : List Value).toArray c → meth.name = "<init>" → (∀ q, s.heap.size ≤ q → A q) → lv_has ls maxL [(0, .ref h0)] → Iw D s A [(h0, .inr (a, dfs a))] s.heap [] →
      (∀ (f : S) (H : Heap) (locs : List Loc) (pcr : Nat) (ls' : Array Slot), Iw D s A (WI h0 f) H locs → decode bytes pcr = .ok (.return_, 1) → W p l e rm s m ([Value.ref h0] : List Value).toArray below meth c H locs rm.cells rm.slots Q (F0 m pcr ls' [])) →
      W p l e rm s m ([Value.ref h0] : List Value).toArray below meth c s.heap [] 0 0 Q (F0 m 0 ls [])) : MI l D ct y bytes maxL a rm WI := by
  intro h0 sz
  refine Met.ofW (cc := bytes) (maxL := maxL) (ret := none) hpl rfl ?_
  intro p e s m args below meth c s₁ B hml hpc
  obtain ⟨rfl, hsz, hP, hK, hN⟩ := hpc
  have hts := atoms_spec (ws := Cond.code y bytes maxL none :: WL) B.pre
  have hown : s.vm.findClass y.cls = some m.cls := findClass_of_methodNamed B.named
  have hlocks := B.notSynchronized
  have hin : meth.name = y.name := (name_of_methodNamed B.named B.method).1
  rw [hcls] at hown
  rw [hnm] at hin
  subst hsz
  have hl := lv_entry ([.ref h0]) (n := maxL) (Nat.le_of_ble_eq_true hlen)
  rw [lg_entry_eq]
  generalize (lg_sl ([.ref h0]) ++ List.replicate (maxL - (lg_sl ([.ref h0])).length) Slot.unset).toArray = ls at hl ⊢
  refine walk h0 p e s m below meth c (AI a h0 s.heap.size) ls _ ⟨B.exec, B.bytes, hml, hown, fun w hw => hts w (List.mem_cons_of_mem _ hw), hK, hN⟩ hin (fun q h => Or.inr h) hl ⟨hP, one_D (Or.inl ⟨0, _, rfl⟩), va_S.rf⟩ ?_
  intro f H locs pcr ls' hw hdg
  exact W.vret B.exec B.bytes B.returns (fun t ht hW => ⟨⟨f, rfl, trivial, by rw [ht]; exact hw.1, hw.2.1⟩, hw.2.2.F ht⟩) hw.2.2.2.2 hdg
section CL
variable {p : Program} {l : Launch} {e : Env} {R : Room} {s : State} {m : MethodId} {args : Array Value} {below : List Frame} {meth : Method} {c : Code} {H : Heap} {locs : List Loc} {cells slots : Nat} {Q : State → Prop}
variable {cc : ByteArray} {nL o pc : Nat} {ls : Array Slot} {rest : List Value} {D : va_G} {A : Nat → Prop} {ct : CT} {ws : va_W}
theorem free_end {q : Nat} {ee : va_E} (hA : ∀ x, s.heap.size ≤ x → A x) (hw : Iw D s A (ws ++ [(q, ee)]) H locs) : ∀ x, va_A [(q, ee)] H.size x → A x := by
  intro x h
  rcases h with ⟨k, e2, h⟩ | h
  · have h3 : k < 1 := (List.getElem?_eq_some_iff.mp h).1
    have h4 : k = 0 := by omega
    subst h4
    cases h
    exact hw.2.1.2 ws.length (q, ee) (by rw [List.getElem?_append_right (Nat.le_refl _)]; simp)
  · exact hA x (Nat.le_trans hw.2.2.1 h)
theorem PcI_blind {a h0 sz : Nat} : FrameBlind (PcI D ct a h0 sz) := by
  intro v U g mk q
  obtain ⟨q0, q1, qP, qK, qN⟩ := q
  exact ⟨q0, q1, qP, va_K.moved (u := U) (U := U.calling g mk v) (Vm.Alike.refl U.vm) qK, NW.same (u := U) (U := U.calling g mk v) rfl qN⟩
theorem pre_end (C : Ic D ct cc nL o p s m args c) {q a : Nat} (hw : Iw D s A (ws ++ [(q, .inr (a, dfs a))]) H locs) : ∀ U : State, U.heap = H → s.WarmedH U.vm → PcI D ct a q H.size ([Value.ref q] : List Value).toArray U := by
  intro U hU hW
  refine ⟨rfl, by rw [hU], ?_, va_K.moved hW.alike C.2.2.2.2.2.1, NW.warm hW C.2.2.2.2.2.2⟩
  rw [hU]
  exact va_P.pm (fun x hx => by
    rw [List.mem_singleton.mp hx]
    simp) hw.1
theorem gd_I {y : MethodName} {bytes : ByteArray} {maxL : Nat} (h : Cond.code y bytes maxL none ∈ WL) : GoodIn WL (Cond.code y bytes maxL none :: WL) := by
  intro w hw
  rcases List.mem_cons.mp hw with h1 | h1
  · rw [h1]
    exact gd_mem (fun _ h => h) h
  · exact gd_mem (fun _ h => h) h1
/-- a nest mate's constructor is called on the cell that was made last -/
theorem i_callN {S : Type} (C : Ic D ct cc nL o p s m args c) (hA : ∀ x, s.heap.size ≤ x → A x) {q a idx maxL : Nat} {y : MethodName} {bytes : ByteArray} {rm : Room} {WI : Nat → S → va_W} (hw : Iw D s A (ws ++ [(q, .inr (a, dfs a))]) H locs) (hM : MI l D ct y bytes maxL a rm WI) (hcode : Cond.code y bytes maxL none ∈ WL) (hinst : Cond.instanceMethod y ∈ WL) (hini : Cond.initialized y.cls ∈ WL) (hlink : va_Nw (.methodLinkNest (oN o) idx y "ThreeGaps") s) (hd : y.cls ≠ "java/lang/invoke/MethodHandle" ∧ y.cls ≠ "java/lang/invoke/VarHandle" ∧ (parseMethodDescriptor y.desc).map (fun d => d.parameters.length) = some 0) (hnm : y.name = "<init>") (hfr : rm.frames + 1 ≤ R.frames) (hlo : 8 + (maxL + 11) + rm.locals ≤ R.locals) (hsz : ls.size = nL) (hwd : (rest.map fun v => v.category).sum ≤ 8) (hcc : cells + rm.cells ≤ R.cells) (hss : slots + rm.slots ≤ R.slots) (hdg : decode cc pc = .ok (.invokespecial idx, 3))
    (kk : ∀ (f : S) (H1 : Heap) (locs1 : List Loc), Iw D s A (ws ++ WI q f) H1 locs1 → W p l e R s m args below meth c H1 locs1 (cells + rm.cells) (slots + rm.slots) Q (F0 m (pc + 3) ls rest)) : W p l e R s m args below meth c H locs cells slots Q (F0 m pc ls (.ref q :: rest)) := by
  have hFc := free_end hA hw
  refine va_callv (A1 := AI a q H.size) (a := ([Value.ref q] : List Value).toArray) (va_runIN (b := q) (As := []) (rest := rest) ⟨C.1, C.2.1, C.2.2.1, C.2.2.2.1, C.2.2.2.2.1⟩ (hM q H.size) ⟨va_cnB 0 C.2.2.2.2.1 (gd_I hcode) rfl rfl rfl hlink (C.2.2.2.2.1 _ hini) hd ⟨hfr, hlo⟩, hnm, C.2.2.2.2.1 _ hinst⟩ ⟨PcI_blind, pre_end C hw⟩ rfl rfl hsz rfl (lv_room hwd) hdg ⟨hcc, hss⟩) hw.2.2 (fun x _ h => hFc x h) hFc (fun f t H1 locs1 ht hvm _ hB hz1 hk1 hS => ?_)
  obtain ⟨hP1, hD1⟩ := hB
  rw [ht] at hP1
  obtain ⟨hP, hD⟩ := join_end hw.1 hw.2.1 hk1 hFc hP1 hD1
  exact kk f H1 locs1 ⟨hP, hD, hS⟩
theorem i_callI {S : Type} (C : Ic D ct cc nL o p s m args c) (hA : ∀ x, s.heap.size ≤ x → A x) {q a idx maxL : Nat} {y : MethodName} {bytes : ByteArray} {rm : Room} {WI : Nat → S → va_W} (hw : Iw D s A (ws ++ [(q, .inr (a, dfs a))]) H locs) (hM : MI l D ct y bytes maxL a rm WI) (hcode : Cond.code y bytes maxL none ∈ WL) (hinst : Cond.instanceMethod y ∈ WL) (hini : Cond.initialized y.cls ∈ WL) (hlink : Cond.methodLink (oN o) idx y ∈ WL) (hd : y.cls ≠ "java/lang/invoke/MethodHandle" ∧ y.cls ≠ "java/lang/invoke/VarHandle" ∧ (parseMethodDescriptor y.desc).map (fun d => d.parameters.length) = some 0) (hnm : y.name = "<init>") (hfr : rm.frames + 1 ≤ R.frames) (hlo : 8 + (maxL + 11) + rm.locals ≤ R.locals) (hsz : ls.size = nL) (hwd : (rest.map fun v => v.category).sum ≤ 8) (hcc : cells + rm.cells ≤ R.cells) (hss : slots + rm.slots ≤ R.slots) (hdg : decode cc pc = .ok (.invokespecial idx, 3))
    (kk : ∀ (f : S) (H1 : Heap) (locs1 : List Loc), Iw D s A (ws ++ WI q f) H1 locs1 → W p l e R s m args below meth c H1 locs1 (cells + rm.cells) (slots + rm.slots) Q (F0 m (pc + 3) ls rest)) : W p l e R s m args below meth c H locs cells slots Q (F0 m pc ls (.ref q :: rest)) := by
  have hFc := free_end hA hw
  refine va_callv (A1 := AI a q H.size) (a := ([Value.ref q] : List Value).toArray) (va_runI (b := q) (As := []) (rest := rest) ⟨C.1, C.2.1, C.2.2.1, C.2.2.2.1, C.2.2.2.2.1⟩ (hM q H.size) (cwI 0 C.2.2.2.2.1 (gd_I hcode) rfl rfl rfl (C.2.2.2.2.1 _ hini) (C.2.2.2.2.1 _ hlink) (C.2.2.2.2.1 _ hinst) hnm hd ⟨hfr, hlo⟩) ⟨PcI_blind, pre_end C hw⟩ rfl rfl hsz rfl (lv_room hwd) hdg ⟨hcc, hss⟩) hw.2.2 (fun x _ h => hFc x h) hFc (fun f t H1 locs1 ht hvm _ hB hz1 hk1 hS => ?_)
  obtain ⟨hP1, hD1⟩ := hB
  rw [ht] at hP1
  obtain ⟨hP, hD⟩ := join_end hw.1 hw.2.1 hk1 hFc hP1 hD1
  exact kk f H1 locs1 ⟨hP, hD, hS⟩
end CL
/-! worlds that are one, but for what lies beyond arrays' ends -/
def Ew (D : va_G) (w w' : va_W) : Prop := (∀ H, va_P D vwCl w H → va_P D vwCl w' H) ∧ w'.map (·.1) = w.map (·.1)
theorem Ew.rf (D : va_G) (w : va_W) : Ew D w w := ⟨fun _ h => h, rfl⟩
theorem Ew.of {D : va_G} {w w' : va_W} (h : w' = w) : Ew D w w' := by
  rw [h]
  exact Ew.rf D w
theorem Ew.app {D : va_G} {w w' u u' : va_W} (h : Ew D w w') (h2 : Ew D u u') : Ew D (w ++ u) (w' ++ u') := ⟨fun H hP => (h.1 H (va_P.pm (fun q hq => List.mem_append_left _ hq) hP)).app (h2.1 H (va_P.pm (fun q hq => List.mem_append_right _ hq) hP)), by rw [List.map_append, List.map_append, h.2, h2.2]⟩
theorem Ew.cons {D : va_G} {q : Nat × va_E} {u u' : va_W} (h : Ew D u u') : Ew D (q :: u) (q :: u') := Ew.app (w := [q]) (w' := [q]) (Ew.rf D [q]) h
theorem arrV_cg {c : ClassId} {n : Nat} {f g : Nat → Value} (h : ∀ j, j < n → f j = g j) : arrV c n f = arrV c n g := by
  unfold arrV
  have e : (fun j : Fin n => f j.val) = fun j : Fin n => g j.val := funext (fun j => h j.val j.2)
  rw [e]
theorem Ew.q {D : va_G} {a n : Nat} {c : ClassId} {f g : Nat → Option Nat} (h : ∀ j, j < n → f j = g j) : Ew D [(a, aQ c n f)] [(a, aQ c n g)] := by
  refine ⟨fun H hP k q hk => ?_, rfl⟩
  have h3 : k < 1 := (List.getElem?_eq_some_iff.mp hk).1
  have h4 : k = 0 := by omega
  subst h4
  cases hk
  have h5 : H[a]? = some (vp_cell c (n, .inr (.inr (.inr (.inr f))))) := hP 0 (a, aQ c n f) rfl
  show H[a]? = some (vp_cell c (n, .inr (.inr (.inr (.inr g)))))
  rw [h5, vp_cell_q, vp_cell_q]
  exact congrArg some (arrV_cg (fun j hj => by rw [h j hj]))
theorem Iw.ew {D : va_G} {s : State} {A : Nat → Prop} {w w' : va_W} {H : Heap} {locs : List Loc} (h : Iw D s A w H locs) (he : Ew D w w') : Iw D s A w' H locs := by
  refine ⟨he.1 H h.1, va_D.of (by rw [he.2]; exact h.2.1.nd) (fun q hq => ?_), h.2.2⟩
  have h1 : q.1 ∈ w'.map (·.1) := List.mem_map_of_mem hq
  rw [he.2] at h1
  obtain ⟨x, hx, e⟩ := List.mem_map.mp h1
  rw [← e]
  obtain ⟨i, hi⟩ := List.getElem?_of_mem hx
  exact h.2.1.2 i x hi
theorem Iw.pm {D : va_G} {s : State} {A : Nat → Prop} {w w' : va_W} {H : Heap} {locs : List Loc} (h : Iw D s A w H locs) (hp : w'.Perm w) : Iw D s A w' H locs := ⟨va_P.pm (fun q hq => hp.mem_iff.mp hq) h.1, h.2.1.pm hp, h.2.2⟩
