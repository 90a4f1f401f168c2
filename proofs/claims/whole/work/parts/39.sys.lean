/-! The two systems' states told by one value. -/
abbrev BM : Type := AM × AM
abbrev TX : Type := Nat × (Nat → Nat)
abbrev SG : Type := Nat × ((Nat → Nat) × ((Nat → Nat) × (Nat → Nat)))
/-- both maps; what was ahead of the last acts, the last first; slots; the text; what is sought; the seed -/
abbrev SS : Type := BM × ((Nat × (Nat → BM)) × ((Nat → Option BM) × (TX × (SG × Int64))))
def isB (σ : Hp) (b : Nat) (B : BM) : Prop := isI σ (2 * b) B.1 ∧ isI σ (2 * b + 1) B.2
def kp (o : Option BM) : Int32 := match o with
  | some _ => 1
  | none => 0
def cAct (σ : Hp) (H : Nat × (Nat → BM)) : Prop := ∃ nx, nx < 14 ∧ σ.1 0 0 1 = nI nx ∧ σ.1 0 0 2 = nI H.1 ∧ ∀ h, h < H.1 → isB σ (2 + (nx + 13 - h) % 14) (H.2 h)
def cSlt (σ : Hp) (f : Nat → Option BM) : Prop := ∀ k, k < 2 → σ.1 12 0 k = kp (f k) ∧ ∀ B, f k = some B → isB σ (16 + k) B
def cTxt (σ : Hp) (t : TX) : Prop := σ.1 4 0 2 = nI t.1 ∧ ∀ i, i < t.1 → σ.1 13 0 i = nI (t.2 i)
def cSgt (σ : Hp) (g : SG) : Prop := σ.1 3 0 3 = nI g.1 ∧ ∀ i, i < g.1 → σ.1 15 0 i = nI (g.2.1 i) ∧ σ.1 16 0 i = nI (g.2.2.1 i) ∧ σ.1 17 0 i = nI (g.2.2.2 i)
def CS (σ : Hp) (S : SS) : Prop := isB σ 0 S.1 ∧ cAct σ S.2.1 ∧ cSlt σ S.2.2.1 ∧ cTxt σ S.2.2.2.1 ∧ cSgt σ S.2.2.2.2.1 ∧ σ.2.1 5 = S.2.2.2.2.2
def isPB (σ : Hp) (P mb : Nat) (B : BM) : Prop := isP σ P mb B.1 ∧ isP σ P (mb + 121) B.2
def mAct (σ : Hp) (H : Nat × (Nat → BM)) : Prop := σ.1 6 0 11 = nI H.1 ∧ ∀ h, h < H.1 → isPB σ 23 (242 * (H.1 - 1 - h)) (H.2 h)
def mSlt (σ : Hp) (f : Nat → Option BM) : Prop := ∀ k, k < 2 → σ.1 25 0 k = kp (f k) ∧ ∀ B, f k = some B → isPB σ 24 (242 * k) B
def mTxt (σ : Hp) (t : TX) : Prop := σ.1 6 0 2 = nI t.1 ∧ ∀ i, i < t.1 → σ.1 18 0 i = nI (t.2 i)
def mSgt (σ : Hp) (g : SG) : Prop := σ.1 6 0 14 = nI g.1 ∧ ∀ i, i < g.1 → σ.1 26 0 i = nI (g.2.1 i) ∧ σ.1 27 0 i = nI (g.2.2.1 i) ∧ σ.1 28 0 i = nI (g.2.2.2 i)
def MS (σ : Hp) (S : SS) : Prop := isPB σ 21 0 S.1 ∧ mAct σ S.2.1 ∧ mSlt σ S.2.2.1 ∧ mTxt σ S.2.2.2.1 ∧ mSgt σ S.2.2.2.2.1 ∧ σ.2.1 6 = S.2.2.2.2.2
def InvB (B : BM) : Prop := Inv B.1 ∧ Inv B.2
def SI (S : SS) : Prop := InvB S.1 ∧ (S.2.1.1 ≤ 14 ∧ ∀ h, h < S.2.1.1 → InvB (S.2.1.2 h)) ∧ (∀ k B, k < 2 → S.2.2.1 k = some B → InvB B) ∧ (S.2.2.2.1.1 ≤ 64 ∧ ∀ i, i < S.2.2.2.1.1 → S.2.2.2.1.2 i < 256) ∧ (S.2.2.2.2.1.1 ≤ 6 ∧ ∀ i, i < S.2.2.2.2.1.1 → S.2.2.2.2.1.2.1 i < 2 ∧ S.2.2.2.2.1.2.2.1 i ≤ 20 ∧ S.2.2.2.2.1.2.2.2 i < 2)
/-- the model's part is as it was; the class's part is -/
def mEq (σ σ' : Hp) : Prop := (∀ k, k = 6 ∨ 18 ≤ k → σ'.1 k = σ.1 k) ∧ σ'.2.1 6 = σ.2.1 6 ∧ σ'.2.2 = σ.2.2
def cEq (σ σ' : Hp) : Prop := (∀ k, k ≠ 6 ∧ (k < 18 ∨ 31 ≤ k) → σ'.1 k = σ.1 k) ∧ σ'.2.1 5 = σ.2.1 5 ∧ σ'.2.2 = σ.2.2
theorem mEq.rf (σ : Hp) : mEq σ σ := ⟨fun _ _ => rfl, rfl, rfl⟩
theorem cEq.rf (σ : Hp) : cEq σ σ := ⟨fun _ _ => rfl, rfl, rfl⟩
theorem mEq.tr {σ σ1 σ2 : Hp} (h : mEq σ σ1) (h2 : mEq σ1 σ2) : mEq σ σ2 := ⟨fun k q => (h2.1 k q).trans (h.1 k q), h2.2.1.trans h.2.1, h2.2.2.trans h.2.2⟩
theorem cEq.tr {σ σ1 σ2 : Hp} (h : cEq σ σ1) (h2 : cEq σ1 σ2) : cEq σ σ2 := ⟨fun k q => (h2.1 k q).trans (h.1 k q), h2.2.1.trans h.2.1, h2.2.2.trans h.2.2⟩
theorem mEq.st {σ σ1 : Hp} {k i s : Nat} {v : Int32} (h : mEq σ σ1) (hk : k ≠ 6 ∧ k < 18) : mEq σ (hset σ1.1 k i s v, σ1.2) := by
  refine ⟨fun k' q => ?_, h.2.1, h.2.2⟩
  rw [← h.1 k' q]
  funext i'
  exact hset_ne (by rintro e; cases e; omega)
theorem cEq.st {σ σ1 : Hp} {k i s : Nat} {v : Int32} (h : cEq σ σ1) (hk : k = 6 ∨ (18 ≤ k ∧ k < 31)) : cEq σ (hset σ1.1 k i s v, σ1.2) := by
  refine ⟨fun k' q => ?_, h.2.1, h.2.2⟩
  rw [← h.1 k' q]
  funext i'
  exact hset_ne (by rintro e; cases e; omega)
theorem CS.of {σ σ' : Hp} {S : SS} (h : CS σ S) (he : cEq σ σ') : CS σ' S := by
  have e : ∀ k, k ≠ 6 ∧ (k < 18 ∨ 31 ≤ k) → σ'.1 k = σ.1 k := he.1
  unfold CS cAct cSlt cTxt cSgt isB isI at h ⊢
  rw [e 0 (by decide), e 2 (by decide), e 3 (by decide), e 4 (by decide), e 7 (by decide), e 8 (by decide), e 9 (by decide), e 12 (by decide), e 13 (by decide), e 15 (by decide), e 16 (by decide), e 17 (by decide), he.2.1]
  exact h
theorem MS.of {σ σ' : Hp} {S : SS} (h : MS σ S) (he : mEq σ σ') : MS σ' S := by
  have e : ∀ k, k = 6 ∨ 18 ≤ k → σ'.1 k = σ.1 k := he.1
  unfold MS mAct mSlt mTxt mSgt isPB isP at h ⊢
  rw [e 6 (by decide), e 18 (by decide), e 21 (by decide), e 23 (by decide), e 24 (by decide), e 25 (by decide), e 26 (by decide), e 27 (by decide), e 28 (by decide), he.2.1]
  exact h
theorem frI.m {j : Nat} {σ σ' : Hp} (h : frI j σ σ') : mEq σ σ' := ⟨fun k q => by
  funext i
  exact h.1 k i (fun q2 => by omega), by rw [h.2], by rw [h.2]⟩
theorem frP.c {P mb : Nat} {σ σ' : Hp} (h : frP P mb σ σ') (hP : 18 ≤ P ∧ P < 31) : cEq σ σ' := ⟨fun k q => by
  funext i
  exact h.1 k i (by omega) (fun q2 => by omega), by rw [h.2.2.1], by rw [h.2.2.1]⟩
theorem frS.c {σ σ' : Hp} (h : frS σ σ') : cEq σ σ' := ⟨fun k q => by
  funext i
  exact h.1 k i (by omega), by rw [h.2.2], by rw [h.2.2]⟩
/-- of the class only the Items 0 .. 3 have changed -/
def frN (σ σ' : Hp) : Prop := (∀ k i, ¬ (i < 4 ∧ (k = 2 ∨ k = 7 ∨ k = 8 ∨ k = 9)) → σ'.1 k i = σ.1 k i) ∧ σ'.2 = σ.2
theorem frN.rf (σ : Hp) : frN σ σ := ⟨fun _ _ _ => rfl, rfl⟩
theorem frN.tr {σ σ1 σ2 : Hp} (h : frN σ σ1) (h2 : frN σ1 σ2) : frN σ σ2 := ⟨fun k i q => (h2.1 k i q).trans (h.1 k i q), h2.2.trans h.2⟩
theorem frI.n {j : Nat} {σ σ' : Hp} (h : frI j σ σ') (hj : j < 4) : frN σ σ' := ⟨fun k i q => h.1 k i (fun q2 => q ⟨by omega, q2.2⟩), h.2⟩
theorem frN.m {σ σ' : Hp} (h : frN σ σ') : mEq σ σ' := ⟨fun k q => by
  funext i
  exact h.1 k i (fun q2 => by omega), by rw [h.2], by rw [h.2]⟩
theorem frN.b {σ σ' : Hp} {b : Nat} {B : BM} (h : frN σ σ') (hb : 2 ≤ b) (hB : isB σ b B) : isB σ' b B := by
  have e : ∀ k i, 4 ≤ i → σ'.1 k i = σ.1 k i := fun k i q => h.1 k i (fun q2 => by omega)
  unfold isB isI at hB ⊢
  rw [e 2 (2 * b) (by omega), e 7 (2 * b) (by omega), e 8 (2 * b) (by omega), e 9 (2 * b) (by omega), e 2 (2 * b + 1) (by omega), e 7 (2 * b + 1) (by omega), e 8 (2 * b + 1) (by omega), e 9 (2 * b + 1) (by omega)]
  exact hB
/-- the maps now in use may have changed -/
theorem CS.now {σ σ' : Hp} {S : SS} {B : BM} (h : CS σ S) (hf : frN σ σ') (hB : isB σ' 0 B) : CS σ' (B, S.2) := by
  obtain ⟨h1, ⟨nx, a1, a2, a3, a4⟩, h3, h4, h5, h6⟩ := h
  have e : ∀ k, k ≠ 2 → k ≠ 7 → k ≠ 8 → k ≠ 9 → σ'.1 k = σ.1 k := fun k q1 q2 q3 q4 => by
    funext i
    exact hf.1 k i (fun q => by omega)
  refine ⟨hB, ⟨nx, a1, ?_, ?_, fun h hh => hf.b (by omega) (a4 h hh)⟩, fun k hk => ⟨?_, fun B' q => hf.b (by omega) ((h3 k hk).2 B' q)⟩, ?_, ?_, ?_⟩
  · rw [e 0 (by decide) (by decide) (by decide) (by decide)]; exact a2
  · rw [e 0 (by decide) (by decide) (by decide) (by decide)]; exact a3
  · rw [e 12 (by decide) (by decide) (by decide) (by decide)]; exact (h3 k hk).1
  · unfold cTxt at h4 ⊢
    rw [e 4 (by decide) (by decide) (by decide) (by decide), e 13 (by decide) (by decide) (by decide) (by decide)]
    exact h4
  · unfold cSgt at h5 ⊢
    rw [e 3 (by decide) (by decide) (by decide) (by decide), e 15 (by decide) (by decide) (by decide) (by decide), e 16 (by decide) (by decide) (by decide) (by decide), e 17 (by decide) (by decide) (by decide) (by decide)]
    exact h5
  · rw [hf.2]; exact h6
/-- a map's number, a key -/
theorem i01 {x : Int32} : (0 ≤ x ∧ x < 2) ↔ (x = 0 ∨ x = 1) := by
  constructor
  · rintro ⟨h1, h2⟩
    have h3 := Int32.le_iff_toInt_le.mp h1
    have h4 := Int32.lt_iff_toInt_lt.mp h2
    have e0 : (0 : Int32).toInt = 0 := rfl
    have e2 : (2 : Int32).toInt = 2 := rfl
    have e1 : (1 : Int32).toInt = 1 := rfl
    rw [e0] at h3
    rw [e2] at h4
    rcases (show x.toInt = 0 ∨ x.toInt = 1 by omega) with h5 | h5
    · exact Or.inl (Int32.toInt_inj.mp (by rw [h5, e0]))
    · exact Or.inr (Int32.toInt_inj.mp (by rw [h5, e1]))
  · rintro (rfl | rfl) <;> decide
theorem i01' {x : Int32} : (0 ≤ x ∧ x ≤ 1) ↔ (x = 0 ∨ x = 1) := by
  rw [← i01]
  constructor
  · rintro ⟨h1, h2⟩
    exact ⟨h1, Int32.lt_of_le_of_lt h2 (by decide)⟩
  · rintro h
    rcases i01.mp h with rfl | rfl <;> decide
theorem i100 {x : Int32} : (0 ≤ x ∧ x < 100) ↔ ∃ k, k < 100 ∧ x = nI k := by
  constructor
  · rintro ⟨h1, h2⟩
    have h3 : ¬ x < 0 := Int32.not_lt.mpr h1
    obtain ⟨k, hk, rfl⟩ := nI_of h3
    exact ⟨k, ilt (b := 100) h2 hk (by decide), rfl⟩
  · rintro ⟨k, hk, rfl⟩
    exact ⟨nI_pos' (by omega), nI_lt hk (by decide)⟩
theorem i100' {x : Int32} : (0 ≤ x ∧ x ≤ 99) ↔ ∃ k, k < 100 ∧ x = nI k := by
  rw [← i100]
  constructor
  · rintro ⟨h1, h2⟩
    exact ⟨h1, Int32.lt_of_le_of_lt h2 (by decide)⟩
  · rintro h
    obtain ⟨k, hk, rfl⟩ := i100.mp h
    exact ⟨nI_pos' (by omega), nI_le (show k ≤ 99 by omega) (by decide)⟩
theorem ev_isMap (x : Int32) (σ : Hp) : Ev 46 [.inl x] σ (fun r σ' => σ' = σ ∧ (((x = 0 ∨ x = 1) ∧ r = some (.inl 1)) ∨ (¬ (x = 0 ∨ x = 1) ∧ r = some (.inl 0)))) := by
  refine G_if rfl (fun q => ?_) (fun q => ?_)
  · exact G_retZ rfl (Or.inl rfl) ⟨rfl, Or.inr ⟨fun e => by rcases e with rfl | rfl <;> exact absurd q (by decide), rfl⟩⟩
  · refine G_if rfl (fun q2 => ?_) (fun q2 => ?_)
    · exact G_retZ rfl (Or.inl rfl) ⟨rfl, Or.inr ⟨fun e => by rcases e with rfl | rfl <;> exact absurd q2 (by decide), rfl⟩⟩
    · exact G_retZ rfl (Or.inr rfl) ⟨rfl, Or.inl ⟨i01.mp ⟨Int32.not_lt.mp q, Int32.not_le.mp q2⟩, rfl⟩⟩
theorem ev_isSlot (x : Int32) (σ : Hp) : Ev 85 [.inl x] σ (fun r σ' => σ' = σ ∧ (((x = 0 ∨ x = 1) ∧ r = some (.inl 1)) ∨ (¬ (x = 0 ∨ x = 1) ∧ r = some (.inl 0)))) := by
  refine G_if rfl (fun q => ?_) (fun q => ?_)
  · exact G_retZ rfl (Or.inl rfl) ⟨rfl, Or.inr ⟨fun e => by rcases e with rfl | rfl <;> exact absurd q (by decide), rfl⟩⟩
  · refine G_if rfl (fun q2 => ?_) (fun q2 => ?_)
    · exact G_retZ rfl (Or.inl rfl) ⟨rfl, Or.inr ⟨fun e => by rcases e with rfl | rfl <;> exact absurd q2 (by decide), rfl⟩⟩
    · exact G_retZ rfl (Or.inr rfl) ⟨rfl, Or.inl ⟨i01.mp ⟨Int32.not_lt.mp q, Int32.not_le.mp q2⟩, rfl⟩⟩
def okK (x : Int32) : Prop := ∃ k, k < 100 ∧ x = nI k
theorem ev_isKey (x : Int32) (σ : Hp) : Ev 48 [.inl x] σ (fun r σ' => σ' = σ ∧ ((okK x ∧ r = some (.inl 1)) ∨ (¬ okK x ∧ r = some (.inl 0)))) := by
  refine G_if rfl (fun q => ?_) (fun q => ?_)
  · exact G_retZ rfl (Or.inl rfl) ⟨rfl, Or.inr ⟨fun e => by
      have := (i100.mpr e).1
      exact absurd q (Int32.not_lt.mpr this), rfl⟩⟩
  · refine G_if rfl (fun q2 => ?_) (fun q2 => ?_)
    · exact G_retZ rfl (Or.inl rfl) ⟨rfl, Or.inr ⟨fun e => by
        have := (i100.mpr e).2
        exact absurd q2 (Int32.not_le.mpr this), rfl⟩⟩
    · exact G_retZ rfl (Or.inr rfl) ⟨rfl, Or.inl ⟨i100.mp ⟨Int32.not_lt.mp q, Int32.not_le.mp q2⟩, rfl⟩⟩
abbrev rB (b : Nat) : PV := .inr (.inr (1, b))
abbrev rT : PV := .inr (.inr (5, 0))
theorem ev_of0 (b : Nat) (σ : Hp) : Ev 3 [rB b, .inl 0] σ (fun r σ' => r = some (rI (2 * b)) ∧ σ' = σ) := by
  refine G_if rfl (fun q => ?_) (fun q => ?_)
  · exact absurd rfl q
  · exact G_ret rfl ⟨rfl, rfl⟩
theorem ev_of1 (b : Nat) {x : Int32} (hx : ¬ x = 0) (σ : Hp) : Ev 3 [rB b, .inl x] σ (fun r σ' => r = some (rI (2 * b + 1)) ∧ σ' = σ) := by
  refine G_if rfl (fun q => ?_) (fun q => ?_)
  · exact G_ret rfl ⟨rfl, rfl⟩
  · exact absurd hx q
/-- a map by its number -/
def mp (B : BM) (m : Nat) : AM := match m with
  | 0 => B.1
  | _ => B.2
theorem ev_of (b : Nat) {m : Nat} (hm : m < 2) (σ : Hp) : Ev 3 [rB b, .inl (nI m)] σ (fun r σ' => r = some (rI (2 * b + m)) ∧ σ' = σ) := by
  match m, hm with
  | 0, _ => exact ev_of0 b σ
  | 1, _ => exact ev_of1 b (by decide) σ
theorem isB.at {σ : Hp} {b : Nat} {B : BM} (h : isB σ b B) {m : Nat} (hm : m < 2) : isI σ (2 * b + m) (mp B m) := by
  match m, hm with
  | 0, _ => exact h.1
  | 1, _ => exact h.2
theorem InvB.at {B : BM} (h : InvB B) {m : Nat} (hm : m < 2) : Inv (mp B m) := by
  match m, hm with
  | 0, _ => exact h.1
  | 1, _ => exact h.2
theorem isPB.at {σ : Hp} {P mb : Nat} {B : BM} (h : isPB σ P mb B) {m : Nat} (hm : m < 2) : isP σ P (mb + 121 * m) (mp B m) := by
  match m, hm with
  | 0, _ => exact h.1
  | 1, _ => exact h.2
theorem okM_nat {x : Int32} (h : x = 0 ∨ x = 1) : ∃ m, m < 2 ∧ x = nI m := by
  rcases h with rfl | rfl
  · exact ⟨0, by decide, rfl⟩
  · exact ⟨1, by decide, rfl⟩
