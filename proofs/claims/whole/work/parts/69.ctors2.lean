/-! Constructors with loops: Acts, ThreeGaps. Laid by wip/whole/mk69.py. -/
section MG
variable {p : Program} {l : Launch} {e : Env} {R : Room} {s : State} {m : MethodId} {args : Array Value} {below : List Frame} {meth : Method} {c : Code} {H : Heap} {locs : List Loc} {cells slots : Nat} {Q : State → Prop}
variable {cc : ByteArray} {nL o pc : Nat} {ls : Array Slot} {rest : List Value} {D : va_G} {A : Nat → Prop} {ct : CT} {ws : va_W}
theorem i_get (C : Ic D ct cc nL o p s m args c) {h0 idx k : Nat} {fs : List Value} {v : Value} (hw : Iw D s A ((h0, .inr (o, fs)) :: ws) H locs) (ho : o < 7) (hlink : Cond.fieldLink (oN o) idx (tN o k).1 (tN o k).2.1 (tN o k).2.2.1 ∈ WL) (hk : k < (ftab.getD o []).length) (hv : fs[k]? = some v) (hdg : decode cc pc = .ok (.getfield idx, 3))
    (kk : W p l e R s m args below meth c H locs cells slots Q (F0 m (pc + 3) ls (v :: rest))) : W p l e R s m args below meth c H locs cells slots Q (F0 m pc ls (.ref h0 :: rest)) := by
  obtain ⟨N, ty0, c1, c2, c3, c4, c5, -⟩ := cls_ok o ho
  exact va_get C.1 C.2.1 C.2.2.2.2.1 c2 C.2.2.2.1 C.2.2.2.2.2.1 hw.1 0 rfl c1 k (by rw [c5]; exact hk) (C.2.2.2.2.1 _ hlink) (fun _ h9 => h9) hv hdg kk
/-- a Both is laid into the array at the second place -/
theorem i_ast (C : Ic D ct cc nL o p s m args c) {x : Nat × va_E} {a1 n v : Nat} {f : Nat → Option Nat} {vs : List Value} (hw : Iw D s A (x :: (a1, aQ ct.2.2 n f) :: ws) H locs) (hv : ((v, .inr (1, vs)) : Nat × va_E) ∈ ws) {i : Int32} (j : Nat) (hi : i = nI j) (hj : j < n) (hn : n < 2147483648) (hdg : decode cc pc = .ok (.aastore, 1))
    (kk : ∀ (H1 : Heap) (locs1 : List Loc), Iw D s A (x :: (a1, aQ ct.2.2 n (va_up f j (some v))) :: ws) H1 locs1 → W p l e R s m args below meth c H1 locs1 cells slots Q (F0 m (pc + 1) ls rest)) : W p l e R s m args below meth c H locs cells slots Q (F0 m pc ls (.ref v :: .int i :: .ref a1 :: rest)) := by
  obtain ⟨qk, hqk⟩ := List.getElem?_of_mem hv
  have hqk2 : (x :: (a1, aQ ct.2.2 n f) :: ws)[qk + 2]? = some (v, .inr (1, vs)) := hqk
  subst hi
  refine va_astq (r := (RX1, TX1, 2)) C.1 C.2.1 C.2.2.2.2.2.1 hw.1 hw.2.1 hw.2.2 1 2 (qk + 2) 1 rfl rfl hqk2 rfl (vp_in_nI hj hn) hdg (fun H1 locs1 hP hD hS => ?_)
  rw [nI_clamp (Nat.lt_trans hj hn)] at hP hD
  exact kk H1 locs1 ⟨hP, hD, hS⟩
end MG
def tr8 (f : Nat → Nat) : Nat → Nat := fun i => match i with
  | 0 => f 0
  | 1 => f 1
  | 2 => f 2
  | 3 => f 3
  | 4 => f 4
  | 5 => f 5
  | 6 => f 6
  | 7 => f 7
  | _ => 0
theorem btW_tr (ct : CT) (h : Nat) (f : Nat → Nat) : btW ct h f = btW ct h (tr8 f) := rfl
theorem btW_cg {ct : CT} {h : Nat} {f g : Nat → Nat} (e : ∀ i, i < 8 → f i = g i) : btW ct h f = btW ct h g := by
  rw [btW_tr, btW_tr ct h g]
  unfold tr8
  rw [e 0 (by decide), e 1 (by decide), e 2 (by decide), e 3 (by decide), e 4 (by decide), e 5 (by decide), e 6 (by decide), e 7 (by decide)]
def bts (ct : CT) (f : Nat → Nat) (n : Nat) : va_W := (List.range n).flatMap (fun j => btW ct (f (1 + 9 * j)) (fun k => f (2 + 9 * j + k)))
abbrev acW (ct : CT) (h : Nat) (f : Nat → Nat) : va_W := (h, .inr (0, [.ref (f 0), .int 0, .int 0])) :: (f 0, aQ ct.2.2 14 (fun j => some (f (1 + 9 * j)))) :: bts ct f 14
def exF (f : Nat → Nat) (k q : Nat) (g : Nat → Nat) : Nat → Nat := fun y => if y < 1 + 9 * k then f y else if y = 1 + 9 * k then q else g (y - (2 + 9 * k))
theorem exF_lo {f : Nat → Nat} {k q : Nat} {g : Nat → Nat} {y : Nat} (h : y < 1 + 9 * k) : exF f k q g y = f y := by
  unfold exF
  rw [if_pos h]
theorem exF_at (f : Nat → Nat) (k q : Nat) (g : Nat → Nat) : exF f k q g (1 + 9 * k) = q := by
  unfold exF
  rw [if_neg (by omega), if_pos rfl]
theorem exF_hi (f : Nat → Nat) (k q : Nat) (g : Nat → Nat) (i : Nat) : exF f k q g (2 + 9 * k + i) = g i := by
  unfold exF
  rw [if_neg (by omega), if_neg (by omega)]
  congr 1
  omega
theorem bts_ex (ct : CT) (f : Nat → Nat) (k q : Nat) (g : Nat → Nat) : bts ct (exF f k q g) (k + 1) = bts ct f k ++ btW ct q g := by
  unfold bts
  rw [List.range_succ, List.flatMap_append]
  have e1 : (List.range k).flatMap (fun j => btW ct (exF f k q g (1 + 9 * j)) (fun i => exF f k q g (2 + 9 * j + i))) = (List.range k).flatMap (fun j => btW ct (f (1 + 9 * j)) (fun i => f (2 + 9 * j + i))) := by
    rw [List.flatMap_def, List.flatMap_def]
    congr 1
    refine List.map_congr_left (fun j hj => ?_)
    have hj := List.mem_range.mp hj
    rw [exF_lo (by omega)]
    exact btW_cg (fun i hi => exF_lo (by omega))
  rw [e1]
  congr 1
  show btW ct (exF f k q g (1 + 9 * k)) (fun i => exF f k q g (2 + 9 * k + i)) ++ [] = _
  rw [List.append_nil, exF_at]
  exact btW_cg (fun i hi => exF_hi f k q g i)
def rmA : Room := { frames := 3, cells := 127, slots := 3514, locals := 52 }
set_option maxRecDepth 20000 in
theorem mi_0 (l : Launch) (D : va_G) (ct : CT) : MI l D ct yX0_init cX0_init 2 0 rmA (acW ct) := by
  refine met_init (by decide) rfl rfl rfl ?_
  intro h0 p e s m below meth c A ls Q C hin hA hl hw fin
  generalize hH : s.heap = H at hw
  have hw : Iw D s A ((h0, .inr (0, [.null, .int 0, .int 0])) :: []) H [] := hw
  refine lv_aload_n C.1 C.2.1 dX0_init_0 rfl (lv_at hl 0 rfl) ?_
  refine i_obj C hl.1 (WL_of (i := 107) (by decide +kernel) rfl) dX0_init_1 (by decide) (by decide) ?_
  refine lv_aload_n C.1 C.2.1 dX0_init_4 rfl (lv_at hl 0 rfl) ?_
  refine lv_bipush (v := 14) C.1 C.2.1 dX0_init_5 (by decide) ?_
  refine i_newQ C hA hw 14 (WL_of (i := 108) (by decide +kernel) rfl) (by decide) (by decide) (by decide) (by decide) (by decide) dX0_init_7 (fun q1 H hw => ?_)
  have hw : Iw D s A ((h0, .inr (0, [.null, .int 0, .int 0])) :: ([] ++ [(q1, aQ ct.2.2 14 (fun _ => none))])) H _ := hw
  refine i_putF C hin (k := 0) (v := .ref q1) (ty := (.array (.object "ThreeGaps$Both"))) hw (by decide) (WL_of (i := 111) (by decide +kernel) rfl) (by decide) rfl rfl (by decide +kernel) rfl rfl (Nat.le_of_ble_eq_true rfl) dX0_init_10 (fun H locs hw => ?_)
  have hw : Iw D s A ((h0, .inr (0, [.ref q1, .int 0, .int 0])) :: ([] ++ [(q1, aQ ct.2.2 14 (fun _ => none))])) H _ := hw
  refine lv_aload_n C.1 C.2.1 dX0_init_13 rfl (lv_at hl 0 rfl) ?_
  refine lv_iconst (v := 0) C.1 C.2.1 dX0_init_14 (by decide) ?_
  refine i_put C (k := 1) (v := .int 0) (ty := .int) hw (by decide) (WL_of (i := 112) (by decide +kernel) rfl) (by decide) rfl (by decide +kernel) rfl rfl (Nat.le_of_ble_eq_true rfl) dX0_init_15 (fun H locs hw => ?_)
  have hw : Iw D s A ((h0, .inr (0, [.ref q1, .int 0, .int 0])) :: ([] ++ [(q1, aQ ct.2.2 14 (fun _ => none))])) H _ := hw
  refine lv_aload_n C.1 C.2.1 dX0_init_18 rfl (lv_at hl 0 rfl) ?_
  refine lv_iconst (v := 0) C.1 C.2.1 dX0_init_19 (by decide) ?_
  refine i_put C (k := 2) (v := .int 0) (ty := .int) hw (by decide) (WL_of (i := 113) (by decide +kernel) rfl) (by decide) rfl (by decide +kernel) rfl rfl (Nat.le_of_ble_eq_true rfl) dX0_init_20 (fun H locs hw => ?_)
  have hw : Iw D s A ((h0, .inr (0, [.ref q1, .int 0, .int 0])) :: ([] ++ [(q1, aQ ct.2.2 14 (fun _ => none))])) H _ := hw
  have loop : ∀ (n k : Nat) (f : Nat → Nat) (fq : Nat → Option Nat) (H : Heap) (locs : List Loc) (ls : Array Slot) (x : Int32), k + n = 14 → x = nI k → lv_has ls 2 [(1, .int x), (0, .ref h0)] → f 0 = q1 → (∀ j, j < k → fq j = some (f (1 + 9 * j))) → Iw D s A ((h0, .inr (0, [.ref q1, .int 0, .int 0])) :: (q1, aQ ct.2.2 14 fq) :: bts ct f k) H locs → W p l e rmA s m ([Value.ref h0] : List Value).toArray below meth c H locs (1 + 9 * k) (14 + 250 * k) Q (F0 m 25 ls []) := by
    intro n
    induction n with
    | zero =>
      intro k f fq H locs ls x hk hx hl hf hq hw
      have hk : k = 14 := by omega
      subst hk
      refine lv_iload_n C.1 C.2.1 dX0_init_25 rfl (lv_at hl 0 rfl) ?_
      refine lv_bipush (v := 14) C.1 C.2.1 dX0_init_26 (by decide) ?_
      refine lv_icmp_ge (tgt := 50) C.1 C.2.1 dX0_init_28 (by decide) (fun _ => ?_) (fun h => ?_)
      · refine fin f H locs 50 _ ?_ dX0_init_50
        have e : acW ct h0 f = (h0, .inr (0, [.ref q1, .int 0, .int 0])) :: ([(q1, aQ ct.2.2 14 (fun j => some (f (1 + 9 * j))))] ++ bts ct f 14) := by
          show (h0, .inr (0, [.ref (f 0), .int 0, .int 0])) :: (f 0, aQ ct.2.2 14 (fun j => some (f (1 + 9 * j)))) :: bts ct f 14 = _
          rw [hf]
          rfl
        rw [e]
        exact hw.ew (Ew.cons (Ew.app (w := [(q1, aQ ct.2.2 14 fq)]) (Ew.q hq) (Ew.rf D _)))
      · rw [hx] at h
        exact absurd (by decide) h
    | succ n ih =>
      intro k f fq H locs ls x hk hx hl hf hq hw
      refine lv_iload_n C.1 C.2.1 dX0_init_25 rfl (lv_at hl 0 rfl) ?_
      refine lv_bipush (v := 14) C.1 C.2.1 dX0_init_26 (by decide) ?_
      refine lv_icmp_ge (tgt := 50) C.1 C.2.1 dX0_init_28 (by decide) (fun h => ?_) (fun _ => ?_)
      · rw [hx] at h
        have := ile (a := 14) h (by decide) (by omega)
        omega
      refine lv_aload_n C.1 C.2.1 dX0_init_31 rfl (lv_at hl 1 rfl) ?_
      refine i_get C (k := 0) (v := .ref q1) hw (by decide) (WL_of (i := 111) (by decide +kernel) rfl) (by decide) rfl dX0_init_32 ?_
      refine lv_iload_n C.1 C.2.1 dX0_init_35 rfl (lv_at hl 0 rfl) ?_
      refine i_new C hA hw 1 2 tyX1 rfl (fun w h => List.mem_filter.mpr (lay_1 w h)) tyX1_ok (WL_of (i := 108) (by decide +kernel) rfl) (WL_of (i := 64) (by decide +kernel) rfl) (WL_of (i := 46) (by decide +kernel) rfl) df_1 (by show 1 + 9 * k + 1 ≤ 127; omega) (by show 14 + 250 * k + 2 ≤ 3514; omega) dX0_init_36 (fun q H hw => ?_)
      refine lv_dup C.1 C.2.1 dX0_init_39 rfl ?_
      refine i_callN (ws := (h0, .inr (0, [.ref q1, .int 0, .int 0])) :: (q1, aQ ct.2.2 14 fq) :: bts ct f k) C hA hw (mi_1 l D ct) (WL_of (i := 67) (by decide +kernel) rfl) (WL_of (i := 66) (by decide +kernel) rfl) (WL_of (i := 46) (by decide +kernel) rfl) C.2.2.2.2.2.2.2.2.1 (by decide +kernel) rfl (by decide) (by decide) hl.1 (Nat.le_of_ble_eq_true rfl) (by show 1 + 9 * k + 1 + 8 ≤ 127; omega) (by show 14 + 250 * k + 2 + 248 ≤ 3514; omega) dX0_init_40 (fun g H locs hw => ?_)
      have hw : Iw D s A ((h0, .inr (0, [.ref q1, .int 0, .int 0])) :: (q1, aQ ct.2.2 14 fq) :: (bts ct f k ++ btW ct q g)) H locs := hw
      refine i_ast C hw (List.mem_append_right _ List.mem_cons_self) k hx (by omega) (by decide) dX0_init_43 (fun H locs hw => ?_)
      refine lv_iinc (k := 0) (v := nI (k + 1)) C.1 C.2.1 dX0_init_44 hl rfl (by rw [hx]; exact nI_1 k) (by decide) rfl (fun ls hl => ?_)
      refine lv_goto (tgt := 25) C.1 C.2.1 dX0_init_47 (by decide) ?_
      refine W.widen (k := 1 + 9 * (k + 1)) (n := 14 + 250 * (k + 1)) (by show 1 + 9 * k + 1 + 8 ≤ _; omega) (by show 14 + 250 * k + 2 + 248 ≤ _; omega) ?_
      refine ih (k + 1) (exF f k q g) _ H locs ls _ (by omega) rfl hl ?_ ?_ (by rw [bts_ex]; exact hw)
      · rw [exF_lo (by omega)]
        exact hf
      · intro j hj
        by_cases e : j = k
        · rw [e, exF_at]
          simp [va_up]
        · rw [exF_lo (by omega), ← hq j (by omega)]
          simp [va_up, e]
  refine lv_iconst (v := 0) C.1 C.2.1 dX0_init_23 (by decide) ?_
  refine lv_istore_n C.1 C.2.1 dX0_init_24 rfl hl (by decide) rfl (fun ls hl => ?_)
  exact loop 14 0 (fun _ => q1) (fun _ => none) H _ ls _ rfl nI_0.symm hl rfl (fun j hj => absurd hj (Nat.not_lt_zero _)) hw
abbrev TGS : Type := (Nat → Nat) × (Nat → Nat → Nat)
abbrev tgW (ct : CT) (h : Nat) (u : TGS) : va_W := (h, .inr (5, [.ref (u.1 1), .ref (u.1 2), .ref (u.1 3), .ref (u.1 4), .ref (u.1 5), .ref (u.1 6), .ref (u.1 7), .long 0])) :: (u.1 6, aQ ct.2.2 2 (va_up (va_up (fun _ => none) 0 (some (u.1 8))) 1 (some (u.1 9)))) :: (((((((([] ++ btW ct (u.1 1) (u.2 1)) ++ btW ct (u.1 2) (u.2 2)) ++ acW ct (u.1 3) (u.2 3)) ++ txW ct (u.1 4) (u.2 4)) ++ soW ct (u.1 5) (u.2 5)) ++ [(u.1 7, aI ct.2.1 2)]) ++ btW ct (u.1 8) (u.2 8)) ++ btW ct (u.1 9) (u.2 9))
def rm5 : Room := { frames := 4, cells := 173, slots := 4616, locals := 73 }
set_option maxRecDepth 20000 in
theorem mi_5 (l : Launch) (D : va_G) (ct : CT) : MI l D ct yX5_init cX5_init 2 5 rm5 (tgW ct) := by
  refine met_init (by decide) rfl rfl rfl ?_
  intro h0 p e s m below meth c A ls Q C hin hA hl hw fin
  generalize hH : s.heap = H at hw
  have hw : Iw D s A ((h0, .inr (5, [.null, .null, .null, .null, .null, .null, .null, .long 0])) :: []) H [] := hw
  refine lv_aload_n C.1 C.2.1 dX5_init_0 rfl (lv_at hl 0 rfl) ?_
  refine i_obj C hl.1 (WL_of (i := 60) (by decide +kernel) rfl) dX5_init_1 (by decide) (by decide) ?_
  refine lv_aload_n C.1 C.2.1 dX5_init_4 rfl (lv_at hl 0 rfl) ?_
  refine i_new C hA hw 1 2 tyX1 rfl (fun w h => List.mem_filter.mpr (lay_1 w h)) tyX1_ok (WL_of (i := 63) (by decide +kernel) rfl) (WL_of (i := 64) (by decide +kernel) rfl) (WL_of (i := 46) (by decide +kernel) rfl) df_1 (by decide) (by decide) dX5_init_5 (fun q1 H hw => ?_)
  have hw : Iw D s A ((h0, .inr (5, [.null, .null, .null, .null, .null, .null, .null, .long 0])) :: ([] ++ [(q1, .inr (1, dfs 1))])) H _ := hw
  refine lv_dup C.1 C.2.1 dX5_init_8 rfl ?_
  refine i_callN (ws := (h0, .inr (5, [.null, .null, .null, .null, .null, .null, .null, .long 0])) :: []) C hA hw (mi_1 l D ct) (WL_of (i := 67) (by decide +kernel) rfl) (WL_of (i := 66) (by decide +kernel) rfl) (WL_of (i := 46) (by decide +kernel) rfl) C.2.2.2.2.2.2.2.1 (by decide +kernel) rfl (by decide) (by decide) hl.1 (Nat.le_of_ble_eq_true rfl) (by decide) (by decide) dX5_init_9 (fun f1 H locs hw => ?_)
  have hw : Iw D s A ((h0, .inr (5, [.null, .null, .null, .null, .null, .null, .null, .long 0])) :: ([] ++ btW ct q1 f1)) H _ := hw
  refine i_putF C hin (k := 0) (v := .ref q1) (ty := (.object "ThreeGaps$Both")) hw (by decide) (WL_of (i := 159) (by decide +kernel) rfl) (by decide) rfl rfl (by decide +kernel) rfl rfl (Nat.le_of_ble_eq_true rfl) dX5_init_12 (fun H locs hw => ?_)
  have hw : Iw D s A ((h0, .inr (5, [.ref q1, .null, .null, .null, .null, .null, .null, .long 0])) :: ([] ++ btW ct q1 f1)) H _ := hw
  refine lv_aload_n C.1 C.2.1 dX5_init_15 rfl (lv_at hl 0 rfl) ?_
  refine i_new C hA hw 1 2 tyX1 rfl (fun w h => List.mem_filter.mpr (lay_1 w h)) tyX1_ok (WL_of (i := 63) (by decide +kernel) rfl) (WL_of (i := 64) (by decide +kernel) rfl) (WL_of (i := 46) (by decide +kernel) rfl) df_1 (by decide) (by decide) dX5_init_16 (fun q2 H hw => ?_)
  have hw : Iw D s A ((h0, .inr (5, [.ref q1, .null, .null, .null, .null, .null, .null, .long 0])) :: (([] ++ btW ct q1 f1) ++ [(q2, .inr (1, dfs 1))])) H _ := hw
  refine lv_dup C.1 C.2.1 dX5_init_19 rfl ?_
  refine i_callN (ws := (h0, .inr (5, [.ref q1, .null, .null, .null, .null, .null, .null, .long 0])) :: ([] ++ btW ct q1 f1)) C hA hw (mi_1 l D ct) (WL_of (i := 67) (by decide +kernel) rfl) (WL_of (i := 66) (by decide +kernel) rfl) (WL_of (i := 46) (by decide +kernel) rfl) C.2.2.2.2.2.2.2.1 (by decide +kernel) rfl (by decide) (by decide) hl.1 (Nat.le_of_ble_eq_true rfl) (by decide) (by decide) dX5_init_20 (fun f2 H locs hw => ?_)
  have hw : Iw D s A ((h0, .inr (5, [.ref q1, .null, .null, .null, .null, .null, .null, .long 0])) :: (([] ++ btW ct q1 f1) ++ btW ct q2 f2)) H _ := hw
  refine i_putF C hin (k := 1) (v := .ref q2) (ty := (.object "ThreeGaps$Both")) hw (by decide) (WL_of (i := 160) (by decide +kernel) rfl) (by decide) rfl rfl (by decide +kernel) rfl rfl (Nat.le_of_ble_eq_true rfl) dX5_init_23 (fun H locs hw => ?_)
  have hw : Iw D s A ((h0, .inr (5, [.ref q1, .ref q2, .null, .null, .null, .null, .null, .long 0])) :: (([] ++ btW ct q1 f1) ++ btW ct q2 f2)) H _ := hw
  refine lv_aload_n C.1 C.2.1 dX5_init_26 rfl (lv_at hl 0 rfl) ?_
  refine i_new C hA hw 0 3 tyX0 rfl (fun w h => List.mem_filter.mpr (lay_0 w h)) tyX0_ok (WL_of (i := 102) (by decide +kernel) rfl) (WL_of (i := 103) (by decide +kernel) rfl) (WL_of (i := 48) (by decide +kernel) rfl) df_0 (by decide) (by decide) dX5_init_27 (fun q3 H hw => ?_)
  have hw : Iw D s A ((h0, .inr (5, [.ref q1, .ref q2, .null, .null, .null, .null, .null, .long 0])) :: ((([] ++ btW ct q1 f1) ++ btW ct q2 f2) ++ [(q3, .inr (0, dfs 0))])) H _ := hw
  refine lv_dup C.1 C.2.1 dX5_init_30 rfl ?_
  refine i_callI (ws := (h0, .inr (5, [.ref q1, .ref q2, .null, .null, .null, .null, .null, .long 0])) :: (([] ++ btW ct q1 f1) ++ btW ct q2 f2)) C hA hw (mi_0 l D ct) (WL_of (i := 106) (by decide +kernel) rfl) (WL_of (i := 105) (by decide +kernel) rfl) (WL_of (i := 48) (by decide +kernel) rfl) (WL_of (i := 104) (by decide +kernel) rfl) (by decide +kernel) rfl (by decide) (by decide) hl.1 (Nat.le_of_ble_eq_true rfl) (by decide) (by decide) dX5_init_31 (fun f3 H locs hw => ?_)
  have hw : Iw D s A ((h0, .inr (5, [.ref q1, .ref q2, .null, .null, .null, .null, .null, .long 0])) :: ((([] ++ btW ct q1 f1) ++ btW ct q2 f2) ++ acW ct q3 f3)) H _ := hw
  refine i_putF C hin (k := 2) (v := .ref q3) (ty := (.object "ThreeGaps$Acts")) hw (by decide) (WL_of (i := 161) (by decide +kernel) rfl) (by decide) rfl rfl (by decide +kernel) rfl rfl (Nat.le_of_ble_eq_true rfl) dX5_init_34 (fun H locs hw => ?_)
  have hw : Iw D s A ((h0, .inr (5, [.ref q1, .ref q2, .ref q3, .null, .null, .null, .null, .long 0])) :: ((([] ++ btW ct q1 f1) ++ btW ct q2 f2) ++ acW ct q3 f3)) H _ := hw
  refine lv_aload_n C.1 C.2.1 dX5_init_37 rfl (lv_at hl 0 rfl) ?_
  refine i_new C hA hw 4 3 tyX4 rfl (fun w h => List.mem_filter.mpr (lay_4 w h)) tyX4_ok (WL_of (i := 122) (by decide +kernel) rfl) (WL_of (i := 123) (by decide +kernel) rfl) (WL_of (i := 49) (by decide +kernel) rfl) df_4 (by decide) (by decide) dX5_init_38 (fun q4 H hw => ?_)
  have hw : Iw D s A ((h0, .inr (5, [.ref q1, .ref q2, .ref q3, .null, .null, .null, .null, .long 0])) :: (((([] ++ btW ct q1 f1) ++ btW ct q2 f2) ++ acW ct q3 f3) ++ [(q4, .inr (4, dfs 4))])) H _ := hw
  refine lv_dup C.1 C.2.1 dX5_init_41 rfl ?_
  refine i_callN (ws := (h0, .inr (5, [.ref q1, .ref q2, .ref q3, .null, .null, .null, .null, .long 0])) :: ((([] ++ btW ct q1 f1) ++ btW ct q2 f2) ++ acW ct q3 f3)) C hA hw (mi_4 l D ct) (WL_of (i := 126) (by decide +kernel) rfl) (WL_of (i := 125) (by decide +kernel) rfl) (WL_of (i := 49) (by decide +kernel) rfl) C.2.2.2.2.2.2.2.2.2.1 (by decide +kernel) rfl (by decide) (by decide) hl.1 (Nat.le_of_ble_eq_true rfl) (by decide) (by decide) dX5_init_42 (fun f4 H locs hw => ?_)
  have hw : Iw D s A ((h0, .inr (5, [.ref q1, .ref q2, .ref q3, .null, .null, .null, .null, .long 0])) :: (((([] ++ btW ct q1 f1) ++ btW ct q2 f2) ++ acW ct q3 f3) ++ txW ct q4 f4)) H _ := hw
  refine i_putF C hin (k := 3) (v := .ref q4) (ty := (.object "ThreeGaps$Text")) hw (by decide) (WL_of (i := 162) (by decide +kernel) rfl) (by decide) rfl rfl (by decide +kernel) rfl rfl (Nat.le_of_ble_eq_true rfl) dX5_init_45 (fun H locs hw => ?_)
  have hw : Iw D s A ((h0, .inr (5, [.ref q1, .ref q2, .ref q3, .ref q4, .null, .null, .null, .long 0])) :: (((([] ++ btW ct q1 f1) ++ btW ct q2 f2) ++ acW ct q3 f3) ++ txW ct q4 f4)) H _ := hw
  refine lv_aload_n C.1 C.2.1 dX5_init_48 rfl (lv_at hl 0 rfl) ?_
  refine i_new C hA hw 3 4 tyX3 rfl (fun w h => List.mem_filter.mpr (lay_3 w h)) tyX3_ok (WL_of (i := 139) (by decide +kernel) rfl) (WL_of (i := 140) (by decide +kernel) rfl) (WL_of (i := 50) (by decide +kernel) rfl) df_3 (by decide) (by decide) dX5_init_49 (fun q5 H hw => ?_)
  have hw : Iw D s A ((h0, .inr (5, [.ref q1, .ref q2, .ref q3, .ref q4, .null, .null, .null, .long 0])) :: ((((([] ++ btW ct q1 f1) ++ btW ct q2 f2) ++ acW ct q3 f3) ++ txW ct q4 f4) ++ [(q5, .inr (3, dfs 3))])) H _ := hw
  refine lv_dup C.1 C.2.1 dX5_init_52 rfl ?_
  refine i_callN (ws := (h0, .inr (5, [.ref q1, .ref q2, .ref q3, .ref q4, .null, .null, .null, .long 0])) :: (((([] ++ btW ct q1 f1) ++ btW ct q2 f2) ++ acW ct q3 f3) ++ txW ct q4 f4)) C hA hw (mi_3 l D ct) (WL_of (i := 143) (by decide +kernel) rfl) (WL_of (i := 142) (by decide +kernel) rfl) (WL_of (i := 50) (by decide +kernel) rfl) C.2.2.2.2.2.2.2.2.2.2.1 (by decide +kernel) rfl (by decide) (by decide) hl.1 (Nat.le_of_ble_eq_true rfl) (by decide) (by decide) dX5_init_53 (fun f5 H locs hw => ?_)
  have hw : Iw D s A ((h0, .inr (5, [.ref q1, .ref q2, .ref q3, .ref q4, .null, .null, .null, .long 0])) :: ((((([] ++ btW ct q1 f1) ++ btW ct q2 f2) ++ acW ct q3 f3) ++ txW ct q4 f4) ++ soW ct q5 f5)) H _ := hw
  refine i_putF C hin (k := 4) (v := .ref q5) (ty := (.object "ThreeGaps$Sought")) hw (by decide) (WL_of (i := 163) (by decide +kernel) rfl) (by decide) rfl rfl (by decide +kernel) rfl rfl (Nat.le_of_ble_eq_true rfl) dX5_init_56 (fun H locs hw => ?_)
  have hw : Iw D s A ((h0, .inr (5, [.ref q1, .ref q2, .ref q3, .ref q4, .ref q5, .null, .null, .long 0])) :: ((((([] ++ btW ct q1 f1) ++ btW ct q2 f2) ++ acW ct q3 f3) ++ txW ct q4 f4) ++ soW ct q5 f5)) H _ := hw
  refine lv_aload_n C.1 C.2.1 dX5_init_59 rfl (lv_at hl 0 rfl) ?_
  refine lv_iconst (v := 2) C.1 C.2.1 dX5_init_60 (by decide) ?_
  refine i_newQ C hA hw 2 (WL_of (i := 63) (by decide +kernel) rfl) (by decide) (by decide) (by decide) (by decide) (by decide) dX5_init_61 (fun q6 H hw => ?_)
  have hw : Iw D s A ((h0, .inr (5, [.ref q1, .ref q2, .ref q3, .ref q4, .ref q5, .null, .null, .long 0])) :: (((((([] ++ btW ct q1 f1) ++ btW ct q2 f2) ++ acW ct q3 f3) ++ txW ct q4 f4) ++ soW ct q5 f5) ++ [(q6, aQ ct.2.2 2 (fun _ => none))])) H _ := hw
  refine i_putF C hin (k := 5) (v := .ref q6) (ty := (.array (.object "ThreeGaps$Both"))) hw (by decide) (WL_of (i := 164) (by decide +kernel) rfl) (by decide) rfl rfl (by decide +kernel) rfl rfl (Nat.le_of_ble_eq_true rfl) dX5_init_64 (fun H locs hw => ?_)
  have hw : Iw D s A ((h0, .inr (5, [.ref q1, .ref q2, .ref q3, .ref q4, .ref q5, .ref q6, .null, .long 0])) :: (((((([] ++ btW ct q1 f1) ++ btW ct q2 f2) ++ acW ct q3 f3) ++ txW ct q4 f4) ++ soW ct q5 f5) ++ [(q6, aQ ct.2.2 2 (fun _ => none))])) H _ := hw
  refine lv_aload_n C.1 C.2.1 dX5_init_67 rfl (lv_at hl 0 rfl) ?_
  refine lv_iconst (v := 2) C.1 C.2.1 dX5_init_68 (by decide) ?_
  refine i_newZ C hA hw 2 (by decide) (by decide) (by decide) (by decide) (by decide) dX5_init_69 (fun q7 H hw => ?_)
  have hw : Iw D s A ((h0, .inr (5, [.ref q1, .ref q2, .ref q3, .ref q4, .ref q5, .ref q6, .null, .long 0])) :: ((((((([] ++ btW ct q1 f1) ++ btW ct q2 f2) ++ acW ct q3 f3) ++ txW ct q4 f4) ++ soW ct q5 f5) ++ [(q6, aQ ct.2.2 2 (fun _ => none))]) ++ [(q7, aI ct.2.1 2)])) H _ := hw
  refine i_putF C hin (k := 6) (v := .ref q7) (ty := (.array .boolean)) hw (by decide) (WL_of (i := 165) (by decide +kernel) rfl) (by decide) rfl rfl (by decide +kernel) rfl rfl (Nat.le_of_ble_eq_true rfl) dX5_init_71 (fun H locs hw => ?_)
  have hw : Iw D s A ((h0, .inr (5, [.ref q1, .ref q2, .ref q3, .ref q4, .ref q5, .ref q6, .ref q7, .long 0])) :: ((((((([] ++ btW ct q1 f1) ++ btW ct q2 f2) ++ acW ct q3 f3) ++ txW ct q4 f4) ++ soW ct q5 f5) ++ [(q6, aQ ct.2.2 2 (fun _ => none))]) ++ [(q7, aI ct.2.1 2)])) H _ := hw
  refine lv_aload_n C.1 C.2.1 dX5_init_74 rfl (lv_at hl 0 rfl) ?_
  refine lv_lconst (v := 0) C.1 C.2.1 dX5_init_75 (by decide) ?_
  refine i_put C (k := 7) (v := .long 0) (ty := .long) hw (by decide) (WL_of (i := 166) (by decide +kernel) rfl) (by decide) rfl (by decide +kernel) rfl rfl (Nat.le_of_ble_eq_true rfl) dX5_init_76 (fun H locs hw => ?_)
  have hw : Iw D s A ((h0, .inr (5, [.ref q1, .ref q2, .ref q3, .ref q4, .ref q5, .ref q6, .ref q7, .long 0])) :: ((((((([] ++ btW ct q1 f1) ++ btW ct q2 f2) ++ acW ct q3 f3) ++ txW ct q4 f4) ++ soW ct q5 f5) ++ [(q6, aQ ct.2.2 2 (fun _ => none))]) ++ [(q7, aI ct.2.1 2)])) H _ := hw
  have hw := hw.pm (w' := (h0, .inr (5, [.ref q1, .ref q2, .ref q3, .ref q4, .ref q5, .ref q6, .ref q7, .long 0])) :: (q6, aQ ct.2.2 2 (fun _ => none)) :: (((((([] ++ btW ct q1 f1) ++ btW ct q2 f2) ++ acW ct q3 f3) ++ txW ct q4 f4) ++ soW ct q5 f5) ++ [(q7, aI ct.2.1 2)])) (List.Perm.cons _ (by
    rw [List.append_assoc (((((([] ++ btW ct q1 f1) ++ btW ct q2 f2) ++ acW ct q3 f3) ++ txW ct q4 f4) ++ soW ct q5 f5))]
    exact List.perm_middle.symm))
  refine lv_iconst (v := 0) C.1 C.2.1 dX5_init_79 (by decide) ?_
  refine lv_istore_n C.1 C.2.1 dX5_init_80 rfl hl (by decide) rfl (fun ls hl => ?_)
  refine lv_iload_n C.1 C.2.1 dX5_init_81 rfl (lv_at hl 0 rfl) ?_
  refine lv_iconst (v := 2) C.1 C.2.1 dX5_init_82 (by decide) ?_
  refine lv_icmp_ge (tgt := 105) C.1 C.2.1 dX5_init_83 (by decide) (fun h => absurd h (by decide)) (fun _ => ?_)
  refine lv_aload_n C.1 C.2.1 dX5_init_86 rfl (lv_at hl 1 rfl) ?_
  refine i_get C (k := 5) (v := .ref q6) hw (by decide) (WL_of (i := 164) (by decide +kernel) rfl) (by decide) rfl dX5_init_87 ?_
  refine lv_iload_n C.1 C.2.1 dX5_init_90 rfl (lv_at hl 0 rfl) ?_
  refine i_new C hA hw 1 2 tyX1 rfl (fun w h => List.mem_filter.mpr (lay_1 w h)) tyX1_ok (WL_of (i := 63) (by decide +kernel) rfl) (WL_of (i := 64) (by decide +kernel) rfl) (WL_of (i := 46) (by decide +kernel) rfl) df_1 (by decide) (by decide) dX5_init_91 (fun q8 H hw => ?_)
  refine lv_dup C.1 C.2.1 dX5_init_94 rfl ?_
  refine i_callN (ws := (h0, .inr (5, [.ref q1, .ref q2, .ref q3, .ref q4, .ref q5, .ref q6, .ref q7, .long 0])) :: (q6, aQ ct.2.2 2 (fun _ => none)) :: (((((([] ++ btW ct q1 f1) ++ btW ct q2 f2) ++ acW ct q3 f3) ++ txW ct q4 f4) ++ soW ct q5 f5) ++ [(q7, aI ct.2.1 2)])) C hA hw (mi_1 l D ct) (WL_of (i := 67) (by decide +kernel) rfl) (WL_of (i := 66) (by decide +kernel) rfl) (WL_of (i := 46) (by decide +kernel) rfl) C.2.2.2.2.2.2.2.1 (by decide +kernel) rfl (by decide) (by decide) hl.1 (Nat.le_of_ble_eq_true rfl) (by decide) (by decide) dX5_init_95 (fun f8 H locs hw => ?_)
  have hw : Iw D s A ((h0, .inr (5, [.ref q1, .ref q2, .ref q3, .ref q4, .ref q5, .ref q6, .ref q7, .long 0])) :: (q6, aQ ct.2.2 2 (fun _ => none)) :: ((((((([] ++ btW ct q1 f1) ++ btW ct q2 f2) ++ acW ct q3 f3) ++ txW ct q4 f4) ++ soW ct q5 f5) ++ [(q7, aI ct.2.1 2)]) ++ btW ct q8 f8)) H locs := hw
  refine i_ast C hw (List.mem_append_right _ List.mem_cons_self) 0 (by decide) (by decide) (by decide) dX5_init_98 (fun H locs hw => ?_)
  refine lv_iinc (k := 0) (v := 1) C.1 C.2.1 dX5_init_99 hl rfl (by decide) (by decide) rfl (fun ls hl => ?_)
  refine lv_goto (tgt := 81) C.1 C.2.1 dX5_init_102 (by decide) ?_
  refine lv_iload_n C.1 C.2.1 dX5_init_81 rfl (lv_at hl 0 rfl) ?_
  refine lv_iconst (v := 2) C.1 C.2.1 dX5_init_82 (by decide) ?_
  refine lv_icmp_ge (tgt := 105) C.1 C.2.1 dX5_init_83 (by decide) (fun h => absurd h (by decide)) (fun _ => ?_)
  refine lv_aload_n C.1 C.2.1 dX5_init_86 rfl (lv_at hl 1 rfl) ?_
  refine i_get C (k := 5) (v := .ref q6) hw (by decide) (WL_of (i := 164) (by decide +kernel) rfl) (by decide) rfl dX5_init_87 ?_
  refine lv_iload_n C.1 C.2.1 dX5_init_90 rfl (lv_at hl 0 rfl) ?_
  refine i_new C hA hw 1 2 tyX1 rfl (fun w h => List.mem_filter.mpr (lay_1 w h)) tyX1_ok (WL_of (i := 63) (by decide +kernel) rfl) (WL_of (i := 64) (by decide +kernel) rfl) (WL_of (i := 46) (by decide +kernel) rfl) df_1 (by decide) (by decide) dX5_init_91 (fun q9 H hw => ?_)
  refine lv_dup C.1 C.2.1 dX5_init_94 rfl ?_
  refine i_callN (ws := (h0, .inr (5, [.ref q1, .ref q2, .ref q3, .ref q4, .ref q5, .ref q6, .ref q7, .long 0])) :: (q6, aQ ct.2.2 2 (va_up (fun _ => none) 0 (some q8))) :: ((((((([] ++ btW ct q1 f1) ++ btW ct q2 f2) ++ acW ct q3 f3) ++ txW ct q4 f4) ++ soW ct q5 f5) ++ [(q7, aI ct.2.1 2)]) ++ btW ct q8 f8)) C hA hw (mi_1 l D ct) (WL_of (i := 67) (by decide +kernel) rfl) (WL_of (i := 66) (by decide +kernel) rfl) (WL_of (i := 46) (by decide +kernel) rfl) C.2.2.2.2.2.2.2.1 (by decide +kernel) rfl (by decide) (by decide) hl.1 (Nat.le_of_ble_eq_true rfl) (by decide) (by decide) dX5_init_95 (fun f9 H locs hw => ?_)
  have hw : Iw D s A ((h0, .inr (5, [.ref q1, .ref q2, .ref q3, .ref q4, .ref q5, .ref q6, .ref q7, .long 0])) :: (q6, aQ ct.2.2 2 (va_up (fun _ => none) 0 (some q8))) :: (((((((([] ++ btW ct q1 f1) ++ btW ct q2 f2) ++ acW ct q3 f3) ++ txW ct q4 f4) ++ soW ct q5 f5) ++ [(q7, aI ct.2.1 2)]) ++ btW ct q8 f8) ++ btW ct q9 f9)) H locs := hw
  refine i_ast C hw (List.mem_append_right _ List.mem_cons_self) 1 (by decide) (by decide) (by decide) dX5_init_98 (fun H locs hw => ?_)
  refine lv_iinc (k := 0) (v := 2) C.1 C.2.1 dX5_init_99 hl rfl (by decide) (by decide) rfl (fun ls hl => ?_)
  refine lv_goto (tgt := 81) C.1 C.2.1 dX5_init_102 (by decide) ?_
  refine lv_iload_n C.1 C.2.1 dX5_init_81 rfl (lv_at hl 0 rfl) ?_
  refine lv_iconst (v := 2) C.1 C.2.1 dX5_init_82 (by decide) ?_
  refine lv_icmp_ge (tgt := 105) C.1 C.2.1 dX5_init_83 (by decide) (fun _ => ?_) (fun h => absurd (by decide) h)
  exact fin ((fun k => match k with | 1 => q1 | 2 => q2 | 3 => q3 | 4 => q4 | 5 => q5 | 6 => q6 | 7 => q7 | 8 => q8 | _ => q9), (fun k => match k with | 1 => f1 | 2 => f2 | 3 => f3 | 4 => f4 | 5 => f5 | 8 => f8 | _ => f9)) H _ _ _ hw dX5_init_105
