/-! Bits, divisors, fractions, items taken out by chance. -/
def iI (z : Int) : Int32 := Int32.ofInt z
theorem iI_nat (n : Nat) : iI (n : Int) = nI n := Int32.ofInt_eq_ofNat
theorem iI_add (a b : Int) : iI a + iI b = iI (a + b) := (Int32.ofInt_add a b).symm
theorem iI_sub (a b : Int) : iI a - iI b = iI (a - b) := (Int32.ofInt_sub a b).symm
theorem iI_mul (a b : Int) : iI a * iI b = iI (a * b) := (Int32.ofInt_mul a b).symm
theorem iI_toInt {z : Int} (h : z.natAbs < 2147483648) : (iI z).toInt = z := Int32.toInt_ofInt_of_le (by omega) (by omega)
theorem iI_lt {z : Int} (h : z.natAbs < 2147483648) : iI z < 0 ↔ z < 0 := by
  rw [Int32.lt_iff_toInt_lt, iI_toInt h]
  exact Iff.rfl
theorem iI_neg {z : Int} (h : z < 0) : -(iI z) = nI z.natAbs := by
  rw [show z.natAbs = (-z).toNat by omega]
  have e : ((-z).toNat : Int) = -z := by omega
  rw [← iI_nat, e]
  exact (Int32.ofInt_neg z).symm
theorem iI_pos {z : Int} (h : ¬ z < 0) : iI z = nI z.natAbs := by
  have e : (z.natAbs : Int) = z := by omega
  rw [← iI_nat, e]
theorem iI_abs {z : Int} (h : z.natAbs < 2147483648) : (if 0 ≤ iI z then iI z else 0 - iI z) = nI z.natAbs := by
  by_cases hz : z < 0
  · rw [if_neg (Int32.not_le.mpr ((iI_lt h).mpr hz)), ← iI_neg hz, Int32.zero_sub]
  · rw [if_pos (Int32.not_lt.mp (fun e => hz ((iI_lt h).mp e))), iI_pos hz]
/-- Euclid's steps, n at most -/
def gcF : Nat → Nat → Nat → Nat
  | 0, p, _ => p
  | n + 1, p, q => if q = 0 then p else gcF n q (p % q)
def enF : Nat → Nat → Nat → Prop
  | 0, _, q => q = 0
  | n + 1, p, q => q = 0 ∨ enF n q (p % q)
theorem en_half : ∀ (k p q : Nat), q < 2 ^ k → enF (2 * k) p q
  | 0, p, q, h => by
    have h : q < 1 := h
    show q = 0
    omega
  | k + 1, p, q, h => by
    show q = 0 ∨ ((p % q = 0) ∨ enF (2 * k) (p % q) (q % (p % q)))
    by_cases h1 : q = 0
    · exact Or.inl h1
    · refine Or.inr ?_
      by_cases h2 : p % q = 0
      · exact Or.inl h2
      · refine Or.inr (en_half k _ _ ?_)
        have h3 : p % q < q := Nat.mod_lt _ (by omega)
        have h4 : q % (p % q) < p % q := Nat.mod_lt _ (by omega)
        have h5 : q % (p % q) = (q - p % q) % (p % q) := Nat.mod_eq_sub_mod (by omega)
        have h6 : (q - p % q) % (p % q) ≤ q - p % q := Nat.mod_le _ _
        rw [Nat.pow_succ] at h
        omega
theorem gcF_pos : ∀ (n p q : Nat), enF n p q → 0 < p ∨ 0 < q → 0 < gcF n p q
  | 0, p, q, h, h2 => by
    have h : q = 0 := h
    show 0 < p
    omega
  | n + 1, p, q, h, h2 => by
    unfold gcF
    split
    · omega
    · next hq => exact gcF_pos n q (p % q) (h.elim (fun e => absurd e hq) id) (Or.inl (by omega))
theorem gcF_lt {B : Nat} : ∀ (n p q : Nat), p < B → q < B → gcF n p q < B
  | 0, p, q, h, _ => h
  | n + 1, p, q, h, h2 => by
    unfold gcF
    split
    · exact h
    · exact gcF_lt n q (p % q) h2 (Nat.lt_of_lt_of_le (Nat.mod_lt _ (by omega)) (by omega))
theorem en100 {p q : Nat} (h : q < 2147483648) : enF 100 p q := en_half 50 p q (by omega)
theorem ev_commonDivisor {p q : Nat} (hp : p < 2147483648) (hq : q < 2147483648) (σ : Hp) : Ev 73 [.inl (nI p), .inl (nI q)] σ (fun r σ' => r = some (.inl (nI (gcF 100 p q))) ∧ σ' = σ) := by
  have loop : ∀ (n st a b : Nat) (x4 : Int32) (l5 : Option PV), st + n = 100 → x4 = nI st → a < 2147483648 → b < 2147483648 → RR 73 7 [some (.inl (nI p)), some (.inl (nI q)), some (.inl (nI a)), some (.inl (nI b)), some (.inl x4), l5] [] σ (fun r σ' => r = some (.inl (nI (gcF n a b))) ∧ σ' = σ) := by
    intro n
    induction n with
    | zero =>
      intro st a b x4 l5 hs hx ha hb
      refine G_if rfl (fun h => ?_) (fun h => ?_)
      · exact G_ret rfl ⟨rfl, rfl⟩
      · rw [hx] at h
        have := nle (a := 100) h (by decide) (by omega)
        omega
    | succ n ih =>
      intro st a b x4 l5 hs hx ha hb
      refine G_if rfl (fun h => ?_) (fun h => ?_)
      · rw [hx] at h
        have := ile (a := 100) h (by decide) (by omega)
        omega
      rw [gcF]
      refine G_if rfl (fun h => ?_) (fun h => ?_)
      · have h := ieq (b := 0) h hb (by decide)
        rw [if_pos h]
        exact G_ret rfl ⟨rfl, rfl⟩
      · have h0 : b ≠ 0 := fun e => h (by rw [e]; rfl)
        rw [if_neg h0]
        refine G_div rfl h ?_
        rw [jr ha (by omega) hb]
        refine G_to [7] rfl ?_
        exact ih (st + 1) b (a % b) _ _ (by omega) (by rw [hx, nI_1]) hb (Nat.lt_of_lt_of_le (Nat.mod_lt _ (by omega)) (by omega))
  refine G_to [7] rfl ?_
  exact loop 100 0 p q _ _ rfl nI_0.symm hp hq
theorem ev_divisor {z : Int} (hz : z.natAbs < 2147483648) {q : Nat} (hq : q < 2147483648) (σ : Hp) : Ev 144 [.inl (iI z), .inl (nI q)] σ (fun r σ' => r = some (.inl (nI (gcF 100 z.natAbs q))) ∧ σ' = σ) := by
  have loop : ∀ (n a b : Nat) (l4 : Option PV), enF n a b → a < 2147483648 → b < 2147483648 → RR 144 13 [some (.inl (iI z)), some (.inl (nI q)), some (.inl (nI a)), some (.inl (nI b)), l4] [] σ (fun r σ' => r = some (.inl (nI (gcF n a b))) ∧ σ' = σ) := by
    intro n
    induction n with
    | zero =>
      intro a b l4 he ha hb
      have he : b = 0 := he
      refine G_if rfl (fun h => ?_) (fun h => ?_)
      · exact G_ret rfl ⟨rfl, rfl⟩
      · exact absurd (by rw [he]; rfl) h
    | succ n ih =>
      intro a b l4 he ha hb
      rw [gcF]
      refine G_if rfl (fun h => ?_) (fun h => ?_)
      · have h := ieq (b := 0) h hb (by decide)
        rw [if_pos h]
        exact G_ret rfl ⟨rfl, rfl⟩
      · have h0 : b ≠ 0 := fun e => h (by rw [e]; rfl)
        rw [if_neg h0]
        refine G_div rfl h ?_
        rw [jr ha (by omega) hb]
        refine G_to [13] rfl ?_
        exact ih b (a % b) _ (he.elim (fun e => absurd e h0) id) hb (Nat.lt_of_lt_of_le (Nat.mod_lt _ (by omega)) (by omega))
  refine G_if rfl (fun h => ?_) (fun h => ?_)
  · have h : ¬ z < 0 := fun e => absurd ((iI_lt hz).mpr e) (Int32.not_lt.mpr h)
    refine G_to [13] rfl ?_
    rw [show some (Sum.inl (iI z)) :: some (Sum.inl (nI q)) :: some (Sum.inl (iI z)) :: some (Sum.inl (nI q)) :: [none] = (some (Sum.inl (iI z)) :: some (Sum.inl (nI q)) :: some (Sum.inl (nI z.natAbs)) :: some (Sum.inl (nI q)) :: [none] : Lc) by rw [iI_pos h]]
    exact loop 100 _ _ _ (en100 hq) hz hq
  · have h : z < 0 := (iI_lt hz).mp (Int32.not_le.mp h)
    refine G_to [13] rfl ?_
    rw [iI_neg h]
    exact loop 100 _ _ _ (en100 hq) hz hq
noncomputable def frF (z : Int) (b : Nat) (u : Int32) : Int32 := gt (u = 0) (nI b / nI (gcF 100 z.natAbs b)) (iI z / nI (gcF 100 z.natAbs b))
theorem ev_cfrac {z : Int} (hz : z.natAbs < 2147483648) {b : Nat} (h0 : 0 < b) (hb : b < 2147483648) (u : Int32) (σ : Hp) : Ev 72 [.inl (iI z), .inl (nI b), .inl u] σ (fun r σ' => r = some (.inl (frF z b u)) ∧ σ' = σ) := by
  have hg0 := gcF_pos 100 z.natAbs b (en100 hb) (Or.inr h0)
  have hg := gcF_lt 100 z.natAbs b hz hb
  have hgn : ¬ nI (gcF 100 z.natAbs b) = 0 := fun e => by
    have := ieq (b := 0) e hg (by decide)
    omega
  unfold frF
  refine G_callv rfl (by rw [iI_abs hz]) (ev_commonDivisor hz hb σ) ?_
  rintro r1 σ1 ⟨rfl, rfl⟩
  refine G_if rfl (fun h => ?_) (fun h => ?_)
  · refine G_if rfl (fun h2 => ?_) (fun h2 => ?_)
    · rw [gt_t h2]
      refine G_div rfl hgn ?_
      exact G_ret rfl ⟨rfl, rfl⟩
    · rw [gt_f h2]
      refine G_div rfl hgn ?_
      exact G_ret rfl ⟨rfl, rfl⟩
  · have := nle (a := 1) h (by decide) hg
    omega
theorem ev_mfrac {z : Int} (hz : z.natAbs < 2147483648) {b : Nat} (h0 : 0 < b) (hb : b < 2147483648) (u : Int32) (σ : Hp) : Ev 143 [.inl (iI z), .inl (nI b), .inl u] σ (fun r σ' => r = some (.inl (frF z b u)) ∧ σ' = σ) := by
  have hg0 := gcF_pos 100 z.natAbs b (en100 hb) (Or.inr h0)
  have hg := gcF_lt 100 z.natAbs b hz hb
  have hgn : ¬ nI (gcF 100 z.natAbs b) = 0 := fun e => by
    have := ieq (b := 0) e hg (by decide)
    omega
  unfold frF
  refine G_call rfl (ev_divisor hz hb σ) ?_
  rintro r1 σ1 ⟨rfl, rfl⟩
  refine G_if rfl (fun h2 => ?_) (fun h2 => ?_)
  · rw [gt_t h2]
    refine G_div rfl hgn ?_
    exact G_ret rfl ⟨rfl, rfl⟩
  · rw [gt_f h2]
    refine G_div rfl hgn ?_
    exact G_ret rfl ⟨rfl, rfl⟩
/-! bits of numbers below 16 -/
theorem bt_shr : ∀ g, g < 16 → ∀ i, i < 4 → (jshr (nI g) (nI i) &&& 1 = nI (g / 2 ^ i % 2)) := by decide +kernel
theorem bt_shl : ∀ i, i < 5 → jshl 1 (nI i) = nI (2 ^ i) := by decide +kernel
theorem bt_and : ∀ g, g < 16 → ∀ i, i < 4 → (nI g &&& nI (2 ^ i) = 0 ↔ ¬ g / 2 ^ i % 2 = 1) := by decide +kernel
theorem bt_or : ∀ g, g < 16 → ∀ i, i < 4 → nI g ||| nI (2 ^ i) = nI (g ||| 2 ^ i) := by decide +kernel
theorem bt_orlt : ∀ n, n < 5 → ∀ g, g < 2 ^ n → ∀ i, i < n → g ||| 2 ^ i < 2 ^ n := by decide +kernel
theorem bt_1 {g i : Nat} (hg : g < 16) (hi : i < 4) : jshr (nI g) (nI i) &&& 1 = 1 ↔ g / 2 ^ i % 2 = 1 := by
  rw [bt_shr g hg i hi]
  have h : g / 2 ^ i % 2 < 2 := Nat.mod_lt _ (by decide)
  constructor
  · intro e
    exact ieq (b := 1) e (by omega) (by decide)
  · intro e
    rw [e]; rfl
def mnF (g : Nat) : Nat := g % 2 + g / 2 % 2 + g / 4 % 2 + g / 8 % 2
theorem p2 {n : Nat} (h : n ≤ 4) : 2 ^ n ≤ 16 := by
  match n, h with
  | 0, _ => decide
  | 1, _ => decide
  | 2, _ => decide
  | 3, _ => decide
  | 4, _ => decide
theorem ev_has {g i : Nat} (hg : g < 16) (hi : i < 4) (σ : Hp) : Ev 140 [.inl (nI g), .inl (nI i)] σ (fun r σ' => r = some (.inl (ifI (g / 2 ^ i % 2 = 1))) ∧ σ' = σ) := by
  refine G_if rfl (fun h => ?_) (fun h => ?_)
  · rw [show ifI (g / 2 ^ i % 2 = 1) = 0 from gt_f (fun e => h ((bt_1 hg hi).mpr e))]
    exact G_retZ rfl (Or.inl rfl) ⟨rfl, rfl⟩
  · rw [show ifI (g / 2 ^ i % 2 = 1) = 1 from gt_t ((bt_1 hg hi).mp (Classical.not_not.mp h))]
    exact G_retZ rfl (Or.inr rfl) ⟨rfl, rfl⟩
/-! the map without some of its least items -/
noncomputable def woF (M0 : AM) (g : Nat) : Nat → Nat → AM → AM
  | 0, _, M => M
  | n + 1, i, M => woF M0 g n (i + 1) (gt (g / 2 ^ i % 2 = 1) (toM M (M0.2.1 i)) M)
noncomputable def woM (M : AM) (g : Nat) : AM := woF M g (min 4 M.1) 0 M
theorem Inv.wo {M0 : AM} {g : Nat} : ∀ (n i : Nat) (M : AM), Inv M → Inv (woF M0 g n i M)
  | 0, _, _, h => h
  | n + 1, i, M, h => by
    unfold woF
    refine Inv.wo n (i + 1) _ ?_
    by_cases h1 : g / 2 ^ i % 2 = 1
    · rw [gt_t h1]; exact h.to _
    · rw [gt_f h1]; exact h
theorem Inv.woM {M : AM} (h : Inv M) (g : Nat) : Inv (woM M g) := Inv.wo _ _ _ h
theorem ev_chanced {σ : Hp} {S : SS} (hC : CS σ S) (hS : SI S) {m : Nat} (hm : m < 2) : Ev 68 [rT, .inl (nI m)] σ (fun r σ' => r = some (.inl (nI (min 4 (mp S.1 m).1))) ∧ σ' = σ) := by
  have hn := (hS.1.at hm).1.1
  refine G_call rfl (ev_of 0 hm σ) ?_
  rintro r1 σ1 ⟨rfl, rfl⟩
  refine G_ret rfl ⟨?_, rfl⟩
  rw [(hC.1.at hm).1, show (4 : Int32) = nI 4 from rfl, imin (by decide) (by omega)]
theorem ev_few {σ : Hp} {mb : Nat} {M : AM} (hI : isP σ 21 mb M) (hn : M.1 ≤ 40) (hm : mb + 121 ≤ 242) : Ev 138 [rMo, .inl (nI mb)] σ (fun r σ' => r = some (.inl (nI (min 4 M.1))) ∧ σ' = σ) := by
  refine G_ald rfl mb rfl (by omega) (by decide) ?_
  rw [hI.1]
  refine G_if rfl (fun h => ?_) (fun h => ?_)
  · have h := ile (a := 4) h (by decide) (by omega)
    rw [Nat.min_eq_left h]
    exact G_ret rfl ⟨rfl, rfl⟩
  · have h := nle (a := 4) h (by decide) (by omega)
    refine G_ald rfl mb rfl (by omega) (by decide) ?_
    rw [hI.1, Nat.min_eq_right (by omega)]
    exact G_ret rfl ⟨rfl, rfl⟩
theorem ev_cwithout {σ : Hp} {S : SS} (hC : CS σ S) (hS : SI S) {m : Nat} (hm : m < 2) {g : Nat} (hg : g < 16) : Ev 69 [rT, .inl (nI m), .inl (nI g)] σ (fun r σ' => r = some (rI (2 * 1 + m)) ∧ isI σ' (2 * 1 + m) (woM (mp S.1 m) g) ∧ frI (2 * 1 + m) σ σ') := by
  have hV := hS.1.at hm
  have hn := hV.1.1
  refine G_call rfl (ev_of 0 hm σ) ?_
  rintro r1 σ1 ⟨rfl, rfl⟩
  refine G_call rfl (ev_tryOn hC hS hm) ?_
  rintro r1 σ2 ⟨rfl, i2, f2⟩
  have loop : ∀ (n i : Nat) (M : AM) (x5 : Int32) (σc : Hp), i + n = min 4 (mp S.1 m).1 → x5 = nI i → Inv M → isI σc (2 * 1 + m) M → frI (2 * 1 + m) σ1 σc → RR 69 19 [some rT, some (.inl (nI m)), some (.inl (nI g)), some (rI (2 * 0 + m)), some (rI (2 * 1 + m)), some (.inl x5)] [] σc (fun r σ' => r = some (rI (2 * 1 + m)) ∧ isI σ' (2 * 1 + m) (woF (mp S.1 m) g n i M) ∧ frI (2 * 1 + m) σ1 σ') := by
    intro n
    induction n with
    | zero =>
      intro i M x5 σc hi hx hVM hI hf
      have hIn := (hC.tr hf hm).1.at hm
      refine G_if rfl (fun h => ?_) (fun h => ?_)
      · exact G_ret rfl ⟨rfl, hI, hf⟩
      · rw [hx] at h
        have h := nle (a := 4) h (by decide) (by omega)
        refine G_if rfl (fun h2 => ?_) (fun h2 => ?_)
        · exact G_ret rfl ⟨rfl, hI, hf⟩
        · rw [hx, hIn.1] at h2
          have h2 := nle h2 (by omega) (by omega)
          omega
    | succ n ih =>
      intro i M x5 σc hi hx hVM hI hf
      have hIn := (hC.tr hf hm).1.at hm
      refine G_if rfl (fun h => ?_) (fun h => ?_)
      · rw [hx] at h
        have := ile (a := 4) h (by decide) (by omega)
        omega
      refine G_if rfl (fun h => ?_) (fun h => ?_)
      · rw [hx, hIn.1] at h
        have := ile h (by omega) (by omega)
        omega
      rw [woF]
      refine G_if rfl (fun h => ?_) (fun h => ?_)
      · rw [hx] at h
        rw [gt_f (fun e => h ((bt_1 hg (by omega)).mpr e))]
        refine G_to [19] rfl ?_
        exact ih (i + 1) M _ _ (by omega) (by rw [hx, nI_1]) hVM hI hf
      · rw [hx] at h
        rw [gt_t ((bt_1 hg (by omega)).mp (Classical.not_not.mp h))]
        refine G_ald rfl i hx (by omega) (by decide) ?_
        rw [(hIn.2 i (by omega)).1]
        refine G_call rfl (ev_to hI hVM (hV.1.2.1 i (by omega)).1) ?_
        rintro r1 σ3 ⟨rfl, i3, f3⟩
        refine G_to [19] rfl ?_
        exact ih (i + 1) _ _ _ (by omega) (by rw [hx, nI_1]) (hVM.to _) i3 (hf.tr f3)
  refine G_to [19] rfl ?_
  exact loop (min 4 (mp S.1 m).1) 0 _ _ _ (by omega) nI_0.symm hV i2 f2
theorem ev_mwithout {σ : Hp} {S : SS} (hM : MS σ S) (hS : SI S) {m : Nat} (hm : m < 2) {g : Nat} (hg : g < 16) : Ev 139 [rMo, .inl (nI (0 + 121 * m)), .inl (nI g)] σ (fun r σ' => r = none ∧ isP σ' 22 (0 + 121 * m) (woM (mp S.1 m) g) ∧ frT σ σ') := by
  have hV := hS.1.at hm
  have hn := hV.1.1
  refine G_call rfl (ev_begin hM.1 hS.1.sz) ?_
  rintro r1 σ2 ⟨rfl, i2, f2⟩
  have loop : ∀ (n i : Nat) (M : AM) (x3 : Int32) (σc : Hp), i + n = min 4 (mp S.1 m).1 → x3 = nI i → Inv M → isP σc 22 (0 + 121 * m) M → frT σ σc → RR 139 6 [some rMo, some (.inl (nI (0 + 121 * m))), some (.inl (nI g)), some (.inl x3)] [] σc (fun r σ' => r = none ∧ isP σ' 22 (0 + 121 * m) (woF (mp S.1 m) g n i M) ∧ frT σ σ') := by
    intro n
    induction n with
    | zero =>
      intro i M x3 σc hi hx hVM hI hf
      have hIn := (hM.t hf).1.at hm
      refine G_call rfl (ev_few hIn hn (by omega)) ?_
      rintro r1 σ3 ⟨rfl, rfl⟩
      refine G_if rfl (fun h => ?_) (fun h => ?_)
      · exact G_ret rfl ⟨rfl, hI, hf⟩
      · rw [hx] at h
        have h := nle h (by omega) (by omega)
        omega
    | succ n ih =>
      intro i M x3 σc hi hx hVM hI hf
      have hIn := (hM.t hf).1.at hm
      refine G_call rfl (ev_few hIn hn (by omega)) ?_
      rintro r1 σ3 ⟨rfl, rfl⟩
      refine G_if rfl (fun h => ?_) (fun h => ?_)
      · rw [hx] at h
        have h := ile h (by omega) (by omega)
        omega
      rw [woF]
      refine G_callv rfl (by rw [hx]) (ev_has hg (i := i) (by omega) _) ?_
      rintro r1 σ4 ⟨rfl, rfl⟩
      by_cases hb : g / 2 ^ i % 2 = 1
      · rw [show ifI (g / 2 ^ i % 2 = 1) = 1 from gt_t hb, gt_t hb]
        refine G_if rfl (fun h => absurd h (by decide)) (fun h => ?_)
        refine G_ald rfl (0 + 121 * m + 1 + i) (by rw [hx]; exact ix1 _ _) (by omega) (by decide) ?_
        rw [(hIn.2 i (by omega)).1]
        refine G_call rfl (ev_removes hI hVM (by omega) (hV.1.2.1 i (by omega)).1) ?_
        rintro r1 σ5 ⟨rfl, i5, f5⟩
        refine G_to [6] rfl ?_
        exact ih (i + 1) _ _ _ (by omega) (by rw [hx, nI_1]) (hVM.to _) i5 (hf.tr f5.t)
      · rw [show ifI (g / 2 ^ i % 2 = 1) = 0 from gt_f hb, gt_f hb]
        refine G_if rfl (fun h => ?_) (fun h => absurd rfl h)
        refine G_to [6] rfl ?_
        exact ih (i + 1) M _ _ (by omega) (by rw [hx, nI_1]) hVM hI hf
  refine G_to [6] rfl ?_
  exact loop (min 4 (mp S.1 m).1) 0 _ _ _ (by omega) nI_0.symm hV (i2.at hm) f2
