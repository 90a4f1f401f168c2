/-! The world behind both constructors is the small machine's; its state is the empty one. -/
def hBu (u : TGS) (b : Nat) : Nat := if b = 0 then u.1 1 else if b = 1 then u.1 2 else if b = 16 then u.1 8 else if b = 17 then u.1 9 else u.2 3 (1 + 9 * (b - 2))
def gBu (u : TGS) (b k : Nat) : Nat := if b = 0 then u.2 1 k else if b = 1 then u.2 2 k else if b = 16 then u.2 8 k else if b = 17 then u.2 9 k else u.2 3 (2 + 9 * (b - 2) + k)
def adW (h5 h6 : Nat) (u : TGS) (f6 : Nat → Nat) (fa b : Nat) : Nat → Nat → Nat := fun k i => match k with
  | 0 => u.1 3
  | 1 => hBu u i
  | 2 => gBu u (i / 2) (4 * (i % 2))
  | 3 => u.1 5
  | 4 => u.1 4
  | 5 => h5
  | 6 => h6
  | 7 => gBu u (i / 2) (4 * (i % 2) + 1)
  | 8 => gBu u (i / 2) (4 * (i % 2) + 2)
  | 9 => gBu u (i / 2) (4 * (i % 2) + 3)
  | 10 => u.2 3 0
  | 11 => u.1 6
  | 12 => u.1 7
  | 13 => u.2 4 0
  | 14 => u.2 4 1
  | 15 => u.2 5 0
  | 16 => u.2 5 1
  | 17 => u.2 5 2
  | 31 => fa
  | 32 => b
  | k => f6 (k - 18)
def hp0 (L : Nat) (xs : Nat → Int32) : Hp := (fun k _ j => match k with
  | 31 => nI (fcF j)
  | 32 => xs j
  | _ => 0, fun _ => 0, L)
def sgB (b : Nat) : List (Nat × Nat) := [(1, b), (2, 2 * b), (7, 2 * b), (8, 2 * b), (9, 2 * b), (2, 2 * b + 1), (7, 2 * b + 1), (8, 2 * b + 1), (9, 2 * b + 1)]
def sgA : List (Nat × Nat) := (List.range 14).flatMap (fun j => sgB (2 + j))
def sgT : List (Nat × Nat) := [(4, 0), (13, 0), (14, 0)]
def sgS : List (Nat × Nat) := [(3, 0), (15, 0), (16, 0), (17, 0)]
def sgM : List (Nat × Nat) := [(6, 0), (18, 0), (19, 0), (20, 0), (21, 0), (22, 0), (23, 0), (24, 0), (25, 0), (26, 0), (27, 0), (28, 0), (29, 0), (30, 0)]
def rlR : List (Nat × Nat) := ([(5, 0)] ++ ([(11, 0)] ++ ((((((((([] : List (Nat × Nat)) ++ sgB 0) ++ sgB 1) ++ ([(0, 0)] ++ ([(10, 0)] ++ sgA))) ++ sgT) ++ sgS) ++ [(12, 0)]) ++ sgB 16) ++ sgB 17))) ++ sgM
theorem rl_perm : allR.Perm rlR := by decide +kernel
section ST
variable (ct : CT) (h5 h6 : Nat) (u : TGS) (f6 : Nat → Nat) (fa b L : Nat) (xs : Nat → Int32)
def Fw : Nat × Nat → Nat × va_E := fun r => (adW h5 h6 u f6 fa b r.1 r.2, cellO (adW h5 h6 u f6 fa b) ct (hp0 L xs) r.1 r.2)
theorem fw_B0 : (sgB 0).map (Fw ct h5 h6 u f6 fa b L xs) = btW ct (u.1 1) (u.2 1) := rfl
theorem fw_B1 : (sgB 1).map (Fw ct h5 h6 u f6 fa b L xs) = btW ct (u.1 2) (u.2 2) := rfl
theorem fw_B16 : (sgB 16).map (Fw ct h5 h6 u f6 fa b L xs) = btW ct (u.1 8) (u.2 8) := rfl
theorem fw_B17 : (sgB 17).map (Fw ct h5 h6 u f6 fa b L xs) = btW ct (u.1 9) (u.2 9) := rfl
theorem fw_Bj (j : Nat) (hj : j < 14) : (sgB (2 + j)).map (Fw ct h5 h6 u f6 fa b L xs) = btW ct (u.2 3 (1 + 9 * j)) (fun k => u.2 3 (2 + 9 * j + k)) := by
  match j, hj with
  | 0, _ => rfl
  | 1, _ => rfl
  | 2, _ => rfl
  | 3, _ => rfl
  | 4, _ => rfl
  | 5, _ => rfl
  | 6, _ => rfl
  | 7, _ => rfl
  | 8, _ => rfl
  | 9, _ => rfl
  | 10, _ => rfl
  | 11, _ => rfl
  | 12, _ => rfl
  | 13, _ => rfl
theorem fw_A : sgA.map (Fw ct h5 h6 u f6 fa b L xs) = bts ct (u.2 3) 14 := by
  unfold sgA bts
  rw [List.map_flatMap, List.flatMap_def, List.flatMap_def]
  exact congrArg List.flatten (List.map_congr_left (fun j hj => fw_Bj ct h5 h6 u f6 fa b L xs j (List.mem_range.mp hj)))
theorem fw_T : sgT.map (Fw ct h5 h6 u f6 fa b L xs) = txW ct (u.1 4) (u.2 4) := rfl
theorem fw_S : sgS.map (Fw ct h5 h6 u f6 fa b L xs) = soW ct (u.1 5) (u.2 5) := rfl
theorem fw_M : sgM.map (Fw ct h5 h6 u f6 fa b L xs) = mdW ct h6 f6 := rfl
theorem fw_5 : [(5, 0)].map (Fw ct h5 h6 u f6 fa b L xs) = [(h5, .inr (5, [.ref (u.1 1), .ref (u.1 2), .ref (u.1 3), .ref (u.1 4), .ref (u.1 5), .ref (u.1 6), .ref (u.1 7), .long 0]))] := rfl
theorem fw_0 : [(0, 0)].map (Fw ct h5 h6 u f6 fa b L xs) = [(u.1 3, .inr (0, [.ref (u.2 3 0), .int 0, .int 0]))] := rfl
theorem fw_12 : [(12, 0)].map (Fw ct h5 h6 u f6 fa b L xs) = [(u.1 7, aI ct.2.1 2)] := rfl
theorem fw_10 : [(10, 0)].map (Fw ct h5 h6 u f6 fa b L xs) = [(u.2 3 0, aQ ct.2.2 14 (fun j => some (hBu u (2 + j))))] := rfl
theorem fw_11 : [(11, 0)].map (Fw ct h5 h6 u f6 fa b L xs) = [(u.1 6, aQ ct.2.2 2 (fun j => some (hBu u (16 + j))))] := rfl
theorem to_wd {D : va_G} {s : State} {A : Nat → Prop} {H : Heap} {locs : List Loc} (hw : Iw D s A (([] ++ tgW ct h5 u) ++ mdW ct h6 f6) H locs) : Iw D s A (wsO (adW h5 h6 u f6 fa b) ct (hp0 L xs)) H locs := by
  have hw : Iw D s A (([(h5, .inr (5, [.ref (u.1 1), .ref (u.1 2), .ref (u.1 3), .ref (u.1 4), .ref (u.1 5), .ref (u.1 6), .ref (u.1 7), .long 0]))] ++ ([(u.1 6, aQ ct.2.2 2 (va_up (va_up (fun _ => none) 0 (some (u.1 8))) 1 (some (u.1 9))))] ++ (((((((([] ++ btW ct (u.1 1) (u.2 1)) ++ btW ct (u.1 2) (u.2 2)) ++ ([(u.1 3, .inr (0, [.ref (u.2 3 0), .int 0, .int 0]))] ++ ([(u.2 3 0, aQ ct.2.2 14 (fun j => some (u.2 3 (1 + 9 * j))))] ++ bts ct (u.2 3) 14))) ++ txW ct (u.1 4) (u.2 4)) ++ soW ct (u.1 5) (u.2 5)) ++ [(u.1 7, aI ct.2.1 2)]) ++ btW ct (u.1 8) (u.2 8)) ++ btW ct (u.1 9) (u.2 9)))) ++ mdW ct h6 f6) H locs := hw
  have key : Iw D s A (rlR.map (Fw ct h5 h6 u f6 fa b L xs)) H locs := by
    unfold rlR
    simp only [List.map_append]
    rw [fw_5, fw_11, fw_B0, fw_B1, fw_0, fw_10, fw_A, fw_T, fw_S, fw_12, fw_B16, fw_B17, fw_M]
    refine hw.ew (Ew.app (Ew.app (Ew.rf D _) (Ew.app (Ew.q (fun j hj => ?_)) (Ew.app (Ew.app (Ew.app (Ew.app (Ew.app (Ew.app (Ew.rf D _) (Ew.app (Ew.rf D _) (Ew.app (Ew.q (fun j hj => ?_)) (Ew.rf D _)))) (Ew.rf D _)) (Ew.rf D _)) (Ew.rf D _)) (Ew.rf D _)) (Ew.rf D _)))) (Ew.rf D _))
    · match j, hj with
      | 0, _ => rfl
      | 1, _ => rfl
    · unfold hBu
      rw [if_neg (by omega), if_neg (by omega), if_neg (by omega), if_neg (by omega), show 2 + j - 2 = j by omega]
  exact key.pm (rl_perm.map _)
end ST
/-! the empty state -/
def am0 : AM := (0, fun _ => 0, fun _ => 0, fun _ => 0)
def ss0 : SS := ((am0, am0), (0, fun _ => (am0, am0)), fun _ => none, (0, fun _ => 0), (0, fun _ => 0, fun _ => 0, fun _ => 0), 0)
theorem inv0 : Inv am0 := ⟨⟨Nat.zero_le _, fun i hi => absurd hi (Nat.not_lt_zero _), fun i hi => absurd hi (Nat.not_lt_zero _)⟩, fun l _ h => by
  obtain ⟨i, hi, -⟩ := h
  exact absurd hi (Nat.not_lt_zero _)⟩
theorem isI0 (L : Nat) (xs : Nat → Int32) (j : Nat) : isI (hp0 L xs) j am0 := ⟨rfl, fun i hi => absurd hi (Nat.not_lt_zero _)⟩
theorem isP0 (L : Nat) (xs : Nat → Int32) (mb : Nat) : isP (hp0 L xs) 21 mb am0 := ⟨rfl, fun i hi => absurd hi (Nat.not_lt_zero _)⟩
theorem gd0 (L : Nat) (xs : Nat → Int32) : Gd L xs (hp0 L xs) ss0 := by
  refine ⟨⟨⟨isI0 L xs _, isI0 L xs _⟩, ⟨0, by decide, rfl, rfl, fun h hh => absurd hh (Nat.not_lt_zero _)⟩, fun k hk => ⟨rfl, fun B hB => by cases hB⟩, ⟨rfl, fun i hi => absurd hi (Nat.not_lt_zero _)⟩, ⟨rfl, fun i hi => absurd hi (Nat.not_lt_zero _)⟩, rfl⟩, ⟨⟨isP0 L xs _, isP0 L xs _⟩, ⟨rfl, fun h hh => absurd hh (Nat.not_lt_zero _)⟩, fun k hk => ⟨rfl, fun B hB => by cases hB⟩, ⟨rfl, fun i hi => absurd hi (Nat.not_lt_zero _)⟩, ⟨rfl, fun i hi => absurd hi (Nat.not_lt_zero _)⟩, rfl⟩, ?_, fun j hj => rfl, rfl, fun j => rfl⟩
  exact ⟨⟨inv0, inv0⟩, ⟨Nat.zero_le _, fun h hh => absurd hh (Nat.not_lt_zero _)⟩, fun k B _ hB => (by cases hB), ⟨Nat.zero_le _, fun i hi => absurd hi (Nat.not_lt_zero _)⟩, ⟨Nat.zero_le _, fun i hi => absurd hi (Nat.not_lt_zero _)⟩⟩
