/-! Heights: a poor gap helped, from the top level down; then one is taken out. -/
/-- two of the next height below lie around x between any two fences of a level -/
def J2 (n : Nat) (T : Nat → Nat) (x m : Nat) : Prop := (∃ i, i < n ∧ m ≤ T i) → ∀ p z, p < x + 1 → x + 1 < z → z ≤ n + 1 → fen n T m p → fen n T m z → ∃ r1 r2, p < r1 ∧ r1 < z ∧ p < r2 ∧ r2 < z ∧ r1 ≠ r2 ∧ T (r1 - 1) = m - 1 ∧ T (r2 - 1) = m - 1
theorem help_step {n : Nat} {T : Nat → Nat} {x l : Nat} (h : LB n T) (hl : 1 ≤ l) (hx : x < n) (hTx : T x = 0) (hex : ∃ i, i < n ∧ l ≤ T i) (hJ : J2 n T x (l + 1)) :
    LB n (helpF n T l x) ∧ helpF n T l x x = 0 ∧ (∃ i, i < n ∧ l - 1 ≤ helpF n T l x i) ∧ J2 n (helpF n T l x) x l ∧ (cntF T (l - 1) (bhF n T l x - ahF T l x) (ahF T l x) = 1 → ¬ (bhF n T l x < n ∧ T (bhF n T l x) = l) → 0 < ahF T l x) := by
  have ha := ahF_le T l x
  have hb := bhF_le T l (Nat.le_of_lt hx)
  have hg := gap_all T l (Nat.le_of_lt hx)
  obtain ⟨hb1, hb2⟩ := bhF_sp T l (Nat.le_of_lt hx)
  obtain ⟨ha1, ha2⟩ := ahF_sp T l x
  have hxb : x < bhF n T l x := by
    rcases Nat.lt_or_ge x (bhF n T l x) with q | q
    · exact q
    · have e : bhF n T l x = x := by omega
      rcases hb1 with q2 | q2
      · omega
      · rw [e, hTx] at q2
        omega
  unfold helpF
  generalize hae : ahF T l x = a at *
  generalize hbe : bhF n T l x = b at *
  have fa : fen n T l a := by
    rcases ha1 with q | q
    · exact Or.inl q
    · rcases Nat.eq_zero_or_pos a with q2 | q2
      · exact Or.inl q2
      · exact Or.inr (Or.inr ⟨q2, by omega, q⟩)
  have fb : fen n T l (b + 1) := by
    rcases hb1 with q | q
    · exact Or.inr (Or.inl (by omega))
    · exact Or.inr (Or.inr ⟨by omega, by omega, by simpa using q.2⟩)
  have hc1 : 1 ≤ cntF T (l - 1) (b - a) a := by
    obtain ⟨r, r1, r2, r3⟩ := h l hl hex a (b + 1) (by omega) (by omega) fa fb
    exact cntF_pos T (l - 1) (b - a) a (r - 1) (by omega) (by omega) r3
  obtain ⟨u1, u2, u3⟩ := nthF_in T (l - 1) (b - a) a 1 (by decide) hc1
  generalize hue : nthF T (l - 1) (b - a) a 1 = u at *
  by_cases hc : cntF T (l - 1) (b - a) a = 1
  · rw [if_pos hc]
    by_cases hq : b < n ∧ T b = l
    · rw [if_pos hq]
      obtain ⟨hbn, hTb⟩ := hq
      have ht := bhF_le T l (show b + 1 ≤ n by omega)
      obtain ⟨ht1, ht2⟩ := bhF_sp T l (show b + 1 ≤ n by omega)
      unfold helpB hB1
      generalize hte : bhF n T l (b + 1) = t at *
      have hno : ∀ zz_, zz_ ≤ n + 1 → fen n T l zz_ → zz_ ≠ b + 1 → zz_ ≤ a ∨ t + 1 ≤ zz_ := by
        intro zz_ hzz_ hzzf_ hzb
        rcases fen_out hg hzzf_ (by omega) with q | q
        · exact Or.inl q
        · rcases fen_out (a := b + 1) ht2 hzzf_ (by omega) with q2 | q2
          · omega
          · exact Or.inr q2
      by_cases hc2 : 2 ≤ cntF T (l - 1) (t - (b + 1)) (b + 1)
      · rw [if_pos hc2]
        obtain ⟨n1, n2, n3⟩ := nthF_in T (l - 1) (t - (b + 1)) (b + 1) 1 (by decide) (by omega)
        obtain ⟨m1, m2, m3⟩ := nthF_in T (l - 1) (t - (b + 1)) (b + 1) 2 (by decide) (by omega)
        have h12 := nthF_lt T (l - 1) (t - (b + 1)) (b + 1) 1 2 (by decide) (by decide) hc2
        generalize nthF T (l - 1) (t - (b + 1)) (b + 1) 1 = q at *
        generalize nthF T (l - 1) (t - (b + 1)) (b + 1) 2 = q2 at *
        have e1 : upN T q (T q + 1) b - 1 = l - 1 := by
          simp only [upN]
          rw [if_neg (by omega)]
          omega
        rw [e1, n3, show l - 1 + 1 = l by omega]
        have hT' : ∀ i, i ≠ b → i ≠ q → upN (upN T q l) b (l - 1) i = T i := by intro i h1 h2; simp [upN, h1, h2]
        have hT'b : upN (upN T q l) b (l - 1) b = l - 1 := by simp [upN]
        have hT'q : upN (upN T q l) b (l - 1) q = l := by simp [upN, show ¬ q = b by omega]
        refine ⟨LB_move h hl hbn (by omega) hTb n3 (fun zz_ hzz_ hzzf_ => ⟨fun _ hzz2_ => ?_, fun hzz2_ => by omega⟩) (fun zz_ hzz_ hzzl_ => ⟨fun hhh_ => ?_, fun hhh_ => by omega⟩), ?_, ⟨b, hbn, by rw [hT'b]; exact Nat.le_refl _⟩, ?_, fun _ hhh_ => absurd ⟨hbn, hTb⟩ hhh_⟩
        · have := hno zz_ hzz_ hzzf_ (by omega)
          exact ⟨q2 + 1, by omega, by omega, by simpa using m3⟩
        · have := ht2 zz_ (by omega) (by omega)
          omega
        · rw [hT' x (by omega) (by omega)]
          exact hTx
        · intro _ pp_ zz_ hpp_ hzz_ hzz2_ fpp_ fzz_
          have fp' : fen n T l pp_ ∧ pp_ ≠ b + 1 := by
            rcases fpp_ with h0 | h0 | ⟨w1, w2, w3⟩
            · exact ⟨Or.inl h0, by omega⟩
            · omega
            · rw [hT' (pp_ - 1) (by omega) (by omega)] at w3
              exact ⟨Or.inr (Or.inr ⟨w1, w2, w3⟩), by omega⟩
          have hpa := hno pp_ (by omega) fp'.1 fp'.2
          have hzq : q + 1 ≤ zz_ := by
            rcases fzz_ with h0 | h0 | ⟨w1, w2, w3⟩
            · omega
            · omega
            · by_cases e2 : zz_ = q + 1
              · omega
              · by_cases e3 : zz_ = b + 1
                · rw [e3] at w3
                  have : b + 1 - 1 = b := by omega
                  rw [this, hT'b] at w3
                  omega
                · rw [hT' (zz_ - 1) (by omega) (by omega)] at w3
                  have := hno zz_ hzz2_ (Or.inr (Or.inr ⟨w1, w2, w3⟩)) e3
                  omega
          refine ⟨u + 1, b + 1, by omega, by omega, by omega, by omega, by omega, ?_, by simpa using hT'b⟩
          have : u + 1 - 1 = u := by omega
          rw [this, hT' u (by omega) (by omega)]
          exact u3
      · rw [if_neg hc2, hTb]
        have hT' : ∀ i, i ≠ b → upN T b (l - 1) i = T i := by intro i h1; simp [upN, h1]
        have hT'b : upN T b (l - 1) b = l - 1 := by simp [upN]
        refine ⟨LB_merge h hl hbn hTb (fun hexx2_ pp_ zz_ hppz_ hzz_ fpp_ fzz_ hpp1_ hzz1_ => ?_), ?_, ⟨b, hbn, by rw [hT'b]; exact Nat.le_refl _⟩, ?_, fun _ hhh_ => absurd ⟨hbn, rfl⟩ hhh_⟩
        · have fp' : fen n T l pp_ := by
            rcases fpp_ with h0 | h0 | ⟨w1, w2, w3⟩
            · exact Or.inl h0
            · exact Or.inr (Or.inl h0)
            · exact Or.inr (Or.inr ⟨w1, w2, by omega⟩)
          have hpa := hno pp_ (by omega) fp' (by omega)
          obtain ⟨r1, r2, s1, s2, s3, s4, s5, s6, s7⟩ := hJ hexx2_ pp_ zz_ (by omega) (by omega) hzz_ fpp_ fzz_
          by_cases e : r1 = b + 1
          · exact ⟨r2, s3, s4, by omega, s7⟩
          · exact ⟨r1, s1, s2, e, s6⟩
        · rw [hT' x (by omega)]
          exact hTx
        · intro _ pp_ zz_ hpp_ hzz_ hzz2_ fpp_ fzz_
          have back : ∀ w, fen n (upN T b (l - 1)) l w → fen n T l w ∧ w ≠ b + 1 := by
            intro w hw
            rcases hw with h0 | h0 | ⟨w1, w2, w3⟩
            · exact ⟨Or.inl h0, by omega⟩
            · exact ⟨Or.inr (Or.inl h0), by omega⟩
            · by_cases e3 : w = b + 1
              · rw [e3] at w3
                have : b + 1 - 1 = b := by omega
                rw [this, hT'b] at w3
                omega
              · rw [hT' (w - 1) (by omega)] at w3
                exact ⟨Or.inr (Or.inr ⟨w1, w2, w3⟩), e3⟩
          have hpa := hno pp_ (by omega) (back pp_ fpp_).1 (back pp_ fpp_).2
          have hza := hno zz_ hzz2_ (back zz_ fzz_).1 (back zz_ fzz_).2
          refine ⟨u + 1, b + 1, by omega, by omega, by omega, by omega, by omega, ?_, by simpa using hT'b⟩
          have : u + 1 - 1 = u := by omega
          rw [this, hT' u (by omega)]
          exact u3
    · rw [if_neg hq]
      -- the fence behind is higher, or there is none
      have hbh : b = n ∨ (b < n ∧ l + 1 ≤ T b) := by
        rcases hb1 with q | q
        · exact Or.inl q
        · exact Or.inr ⟨q.1, by
            have : ¬ T b = l := fun e => hq ⟨q.1, e⟩
            omega⟩
      have fb1 : fen n T (l + 1) (b + 1) := by
        rcases hbh with q | q
        · exact Or.inr (Or.inl (by omega))
        · exact Or.inr (Or.inr ⟨by omega, by omega, by simpa using q.2⟩)
      have hapos : 0 < a := by
        rcases Nat.eq_zero_or_pos a with q | q
        · exfalso
          have hex1 : ∃ i, i < n ∧ l + 1 ≤ T i := by
            rcases hbh with q2 | q2
            · obtain ⟨i, hi, hi2⟩ := hex
              have := hg i (by omega) (by omega)
              omega
            · exact ⟨b, q2.1, q2.2⟩
          obtain ⟨r, r1, r2, r3⟩ := h (l + 1) (by omega) hex1 a (b + 1) (by omega) (by omega) (Or.inl q) fb1
          have := hg (r - 1) (by omega) (by omega)
          omega
        · exact q
      rw [if_pos hapos]
      have hTf : T (a - 1) = l := by
        have hge : l ≤ T (a - 1) := by
          rcases ha1 with q | q
          · omega
          · exact q
        rcases Nat.lt_or_ge l (T (a - 1)) with q | q
        · exfalso
          obtain ⟨r, r1, r2, r3⟩ := h (l + 1) (by omega) ⟨a - 1, by omega, q⟩ a (b + 1) (by omega) (by omega) (Or.inr (Or.inr ⟨by omega, by omega, q⟩)) fb1
          have := hg (r - 1) (by omega) (by omega)
          omega
        · omega
      have hs := ahF_le T l (a - 1)
      obtain ⟨hs1, hs2⟩ := ahF_sp T l (a - 1)
      unfold helpA hA1
      generalize hse : ahF T l (a - 1) = s at *
      have hno : ∀ zz_, zz_ ≤ n + 1 → fen n T l zz_ → zz_ ≠ a → zz_ ≤ s ∨ b + 1 ≤ zz_ := by
        intro zz_ hzz_ hzzf_ hza
        rcases fen_out hg hzzf_ (by omega) with q | q
        · rcases fen_out (b := a - 1) hs2 hzzf_ (by omega) with q2 | q2
          · exact Or.inl q2
          · omega
        · exact Or.inr q
      by_cases hc2 : 2 ≤ cntF T (l - 1) (a - 1 - s) s
      · rw [if_pos hc2]
        obtain ⟨n1, n2, n3⟩ := nthF_in T (l - 1) (a - 1 - s) s (cntF T (l - 1) (a - 1 - s) s) (by omega) (by omega)
        obtain ⟨m1, m2, m3⟩ := nthF_in T (l - 1) (a - 1 - s) s (cntF T (l - 1) (a - 1 - s) s - 1) (by omega) (by omega)
        have h12 := nthF_lt T (l - 1) (a - 1 - s) s (cntF T (l - 1) (a - 1 - s) s - 1) (cntF T (l - 1) (a - 1 - s) s) (by omega) (by omega) (by omega)
        generalize nthF T (l - 1) (a - 1 - s) s (cntF T (l - 1) (a - 1 - s) s) = q at *
        generalize nthF T (l - 1) (a - 1 - s) s (cntF T (l - 1) (a - 1 - s) s - 1) = q2 at *
        have e1 : upN T q (T q + 1) (a - 1) - 1 = l - 1 := by
          simp only [upN]
          rw [if_neg (by omega)]
          omega
        rw [e1, n3, show l - 1 + 1 = l by omega]
        have hT' : ∀ i, i ≠ a - 1 → i ≠ q → upN (upN T q l) (a - 1) (l - 1) i = T i := by intro i h1 h2; simp [upN, h1, h2]
        have hT'f : upN (upN T q l) (a - 1) (l - 1) (a - 1) = l - 1 := by simp [upN]
        refine ⟨LB_move h hl (by omega) (by omega) hTf n3 (fun zz_ hzz_ hzzf_ => ⟨fun hzz2_ => by omega, fun _ hzz2_ => ?_⟩) (fun zz_ hzz_ hzzl_ => ⟨fun hhh_ => by omega, fun hhh_ => ?_⟩), ?_, ⟨a - 1, by omega, by rw [hT'f]; exact Nat.le_refl _⟩, ?_, fun _ _ => hapos⟩
        · have := hno zz_ hzz_ hzzf_ (by omega)
          exact ⟨q2 + 1, by omega, by omega, by simpa using m3⟩
        · have := hs2 zz_ (by omega) (by omega)
          omega
        · rw [hT' x (by omega) (by omega)]
          exact hTx
        · intro _ pp_ zz_ hpp_ hzz_ hzz2_ fpp_ fzz_
          have hzb : b + 1 ≤ zz_ := by
            rcases fzz_ with h0 | h0 | ⟨w1, w2, w3⟩
            · omega
            · omega
            · rw [hT' (zz_ - 1) (by omega) (by omega)] at w3
              have := hno zz_ hzz2_ (Or.inr (Or.inr ⟨w1, w2, w3⟩)) (by omega)
              omega
          have hpq : pp_ ≤ q + 1 := by
            rcases fpp_ with h0 | h0 | ⟨w1, w2, w3⟩
            · omega
            · omega
            · by_cases e2 : pp_ = q + 1
              · omega
              · by_cases e3 : pp_ = a
                · rw [e3, hT'f] at w3
                  omega
                · rw [hT' (pp_ - 1) (by omega) (by omega)] at w3
                  have := hno pp_ (by omega) (Or.inr (Or.inr ⟨w1, w2, w3⟩)) e3
                  omega
          refine ⟨u + 1, a, by omega, by omega, by omega, by omega, by omega, ?_, hT'f⟩
          have : u + 1 - 1 = u := by omega
          rw [this, hT' u (by omega) (by omega)]
          exact u3
      · rw [if_neg hc2, hTf]
        have hT' : ∀ i, i ≠ a - 1 → upN T (a - 1) (l - 1) i = T i := by intro i h1; simp [upN, h1]
        have hT'f : upN T (a - 1) (l - 1) (a - 1) = l - 1 := by simp [upN]
        refine ⟨LB_merge h hl (by omega) hTf (fun hexx2_ pp_ zz_ hppz_ hzz_ fpp_ fzz_ hpp1_ hzz1_ => ?_), ?_, ⟨a - 1, by omega, by rw [hT'f]; exact Nat.le_refl _⟩, ?_, fun _ _ => hapos⟩
        · have fz' : fen n T l zz_ := by
            rcases fzz_ with h0 | h0 | ⟨w1, w2, w3⟩
            · exact Or.inl h0
            · exact Or.inr (Or.inl h0)
            · exact Or.inr (Or.inr ⟨w1, w2, by omega⟩)
          have hza := hno zz_ hzz_ fz' (by omega)
          obtain ⟨r1, r2, s1, s2, s3, s4, s5, s6, s7⟩ := hJ hexx2_ pp_ zz_ (by omega) (by omega) hzz_ fpp_ fzz_
          by_cases e : r1 = a - 1 + 1
          · exact ⟨r2, s3, s4, by omega, s7⟩
          · exact ⟨r1, s1, s2, e, s6⟩
        · rw [hT' x (by omega)]
          exact hTx
        · intro _ pp_ zz_ hpp_ hzz_ hzz2_ fpp_ fzz_
          have back : ∀ w, fen n (upN T (a - 1) (l - 1)) l w → fen n T l w ∧ w ≠ a := by
            intro w hw
            rcases hw with h0 | h0 | ⟨w1, w2, w3⟩
            · exact ⟨Or.inl h0, by omega⟩
            · exact ⟨Or.inr (Or.inl h0), by omega⟩
            · by_cases e3 : w = a
              · rw [e3, hT'f] at w3
                omega
              · rw [hT' (w - 1) (by omega)] at w3
                exact ⟨Or.inr (Or.inr ⟨w1, w2, w3⟩), e3⟩
          have hpa := hno pp_ (by omega) (back pp_ fpp_).1 (back pp_ fpp_).2
          have hza := hno zz_ hzz2_ (back zz_ fzz_).1 (back zz_ fzz_).2
          refine ⟨u + 1, a, by omega, by omega, by omega, by omega, by omega, ?_, hT'f⟩
          have : u + 1 - 1 = u := by omega
          rw [this, hT' u (by omega)]
          exact u3
  · rw [if_neg hc]
    obtain ⟨i, hi, hi2⟩ := hex
    refine ⟨h, hTx, ⟨i, hi, by omega⟩, ?_, fun e => absurd e hc⟩
    obtain ⟨m1, m2, m3⟩ := nthF_in T (l - 1) (b - a) a 2 (by decide) (by omega)
    have h12 := nthF_lt T (l - 1) (b - a) a 1 2 (by decide) (by decide) (by omega)
    rw [hue] at h12
    generalize nthF T (l - 1) (b - a) a 2 = u' at *
    intro _ pp_ zz_ hpp_ hzz_ hzz2_ fpp_ fzz_
    have hpp1_ := fen_out hg fpp_ (by omega)
    have hzz1_ := fen_out hg fzz_ (by omega)
    exact ⟨u + 1, u' + 1, by omega, by omega, by omega, by omega, by omega, by simpa using u3, by simpa using m3⟩
theorem help_all {n x : Nat} (hx : x < n) : ∀ (l : Nat) (T : Nat → Nat), LB n T → T x = 0 → (l = 0 ∨ ∃ i, i < n ∧ l ≤ T i) → J2 n T x (l + 1) → LB n (helpL n x l T) ∧ helpL n x l T x = 0 ∧ J2 n (helpL n x l T) x 1
  | 0, T, h, h0, _, hJ => ⟨h, h0, hJ⟩
  | l + 1, T, h, h0, hex, hJ => by
    have hex' : ∃ i, i < n ∧ l + 1 ≤ T i := by
      rcases hex with q | q
      · omega
      · exact q
    obtain ⟨a1, a2, a3, a4, -⟩ := help_step h (by omega) hx h0 hex' hJ
    exact help_all hx l _ a1 a2 (Or.inr a3) a4
theorem topF_ge (T : Nat → Nat) : ∀ (n i : Nat), i < n → T i + 1 ≤ topF T n
  | 0, i, h => by omega
  | n + 1, i, h => by
    simp only [topF]
    by_cases hin : i = n
    · subst hin
      omega
    · have := topF_ge T n i (by omega)
      omega
theorem topF_at (T : Nat → Nat) : ∀ (n : Nat), 0 < n → ∃ i, i < n ∧ T i + 1 = topF T n
  | 0, h => by omega
  | n + 1, _ => by
    simp only [topF]
    rcases Nat.lt_or_ge (T n + 1) (topF T n) with h | h
    · cases n with
      | zero => simp [topF] at h
      | succ n =>
        obtain ⟨i, hi, hi2⟩ := topF_at T (n + 1) (by omega)
        exact ⟨i, by omega, by omega⟩
    · exact ⟨n, by omega, by omega⟩
def Inv (M : AM) : Prop := wfM M ∧ LB M.1 M.2.2.2
theorem Inv.low {M : AM} (h : Inv M) : lowM M := fun i hi => by
  have := LB_bound h.2 hi
  have := h.1.1
  omega
theorem outP_ok {M : AM} (h : LB M.1 M.2.2.2) {p : Nat} (hp : p < M.1) : outP M p < M.1 ∧ M.2.2.2 (outP M p) = 0 ∧ (outP M p = p ∨ outP M p = p + 1) ∧ (0 < M.2.2.2 p → outP M p = p + 1) ∧ (M.2.2.2 p = 0 → outP M p = p) := by
  unfold outP
  rcases Nat.eq_zero_or_pos (M.2.2.2 p) with q | q
  · rw [if_neg (by omega)]
    exact ⟨hp, q, Or.inl rfl, fun _ => by omega, fun _ => rfl⟩
  · have := LB_low h hp q
    rw [if_pos ⟨q, this.1⟩]
    exact ⟨this.1, this.2, Or.inr rfl, fun _ => rfl, fun _ => by omega⟩
theorem helpL_le {n p b : Nat} (hp : p ≤ n) : ∀ (l : Nat) (T : Nat → Nat), l ≤ b → (∀ i, i < n → T i ≤ b) → ∀ i, i < n → helpL n p l T i ≤ b
  | 0, T, _, h, i, hi => h i hi
  | l + 1, T, hl, h, i, hi => helpL_le hp l _ (by omega) (helpF_le hl hp h (by omega)) i hi
theorem partL_le {n p b : Nat} (hp : p ≤ n) : ∀ (l : Nat) (T : Nat → Nat), l ≤ b → (∀ i, i < n → T i ≤ b) → ∀ i, i < n → partL n p l T i ≤ b
  | 0, T, _, h, i, hi => h i hi
  | l + 1, T, hl, h, i, hi => partL_le hp l _ (by omega) (partF_le hl hp h (by omega)) i hi
theorem Inv.out {M : AM} (h : Inv M) {p : Nat} (hp : p < M.1) : Inv (outM M p) := by
  obtain ⟨o1, o2, o3, -⟩ := outP_ok h.2 hp
  obtain ⟨i0, hi0, ht0⟩ := topF_at M.2.2.2 M.1 (by omega)
  have hlow := h.low
  have htop := low_top hlow
  have hn := h.1.1
  obtain ⟨a1, a2, a3⟩ := help_all o1 (topF M.2.2.2 M.1 - 1) M.2.2.2 h.2 o2 (Or.inr ⟨i0, hi0, by omega⟩) (fun hex => by
    obtain ⟨i, hi, hi2⟩ := hex
    have := topF_ge M.2.2.2 M.1 i hi
    omega)
  have hle := helpL_le (b := 40) (Nat.le_of_lt o1) (topF M.2.2.2 M.1 - 1) M.2.2.2 (by omega) (fun i hi => by have := hlow i hi; omega)
  refine ⟨⟨by show M.1 - 1 ≤ 40; omega, fun i hi => ?_, fun i hi => ?_⟩, ?_⟩
  · have hi : i < M.1 - 1 := hi
    refine ⟨?_, ?_, ?_⟩
    · show delF M.2.1 p i < 100
      unfold delF
      split
      · exact (h.1.2.1 i (by omega)).1
      · exact (h.1.2.1 (i + 1) (by omega)).1
    · show delF M.2.2.1 p i < 1000000
      unfold delF
      split
      · exact (h.1.2.1 i (by omega)).2.1
      · exact (h.1.2.1 (i + 1) (by omega)).2.1
    · show delF (helpL M.1 (outP M p) (topF M.2.2.2 M.1 - 1) M.2.2.2) (outP M p) i < 64
      unfold delF
      split
      · have := hle i (by omega)
        omega
      · have := hle (i + 1) (by omega)
        omega
  · have hi : i + 1 < M.1 - 1 := hi
    show delF M.2.1 p i < delF M.2.1 p (i + 1)
    unfold delF
    split
    · split
      · exact h.1.2.2 i (by omega)
      · exact wf_lt h.1 (by omega) (by omega)
    · rw [if_neg (by omega)]
      exact h.1.2.2 (i + 1) (by omega)
  · show LB (M.1 - 1) (delF (helpL M.1 (outP M p) (topF M.2.2.2 M.1 - 1) M.2.2.2) (outP M p))
    refine LB_del a1 o1 a2 (fun hex q z hq hz hz2 fq fz => ?_)
    obtain ⟨r1, r2, s1, s2, s3, s4, s5, s6, s7⟩ := a3 hex q z hq hz hz2 fq fz
    by_cases e : r1 = outP M p + 1
    · exact ⟨r2, s3, s4, by omega, s7⟩
    · exact ⟨r1, s1, s2, e, s6⟩
theorem Inv.place {M : AM} (h : Inv M) {key v : Nat} (hk : key < 100) (hv : v < 1000000) (hn : M.1 < 40) (hno : ¬ has M key) : Inv (placeM M key v) := by
  have hle := les_le M key
  have hlow := h.low
  have htop := low_top hlow
  obtain ⟨l1, l2⟩ := les_spec h.1 key
  have hpl := partL_le (b := 40) hle (topF M.2.2.2 M.1) M.2.2.2 htop (fun i hi => by have := hlow i hi; omega)
  have hne : les M key < M.1 → M.2.1 (les M key) ≠ key := fun q e => hno ⟨q, e⟩
  refine ⟨⟨by show M.1 + 1 ≤ 40; omega, fun i hi => ?_, fun i hi => ?_⟩, LB_ins (LB_partL hle _ _ h.2) hle⟩
  · have hi : i < M.1 + 1 := hi
    refine ⟨?_, ?_, ?_⟩
    · show insF M.2.1 (les M key) key i < 100
      unfold insF
      split
      · exact (h.1.2.1 i (by omega)).1
      · split
        · exact hk
        · exact (h.1.2.1 (i - 1) (by omega)).1
    · show insF M.2.2.1 (les M key) v i < 1000000
      unfold insF
      split
      · exact (h.1.2.1 i (by omega)).2.1
      · split
        · exact hv
        · exact (h.1.2.1 (i - 1) (by omega)).2.1
    · show insF (partL M.1 (les M key) (topF M.2.2.2 M.1) M.2.2.2) (les M key) 0 i < 64
      unfold insF
      split
      · have := hpl i (by omega)
        omega
      · split
        · omega
        · have := hpl (i - 1) (by omega)
          omega
  · have hi : i + 1 < M.1 + 1 := hi
    show insF M.2.1 (les M key) key i < insF M.2.1 (les M key) key (i + 1)
    unfold insF
    split
    · split
      · exact h.1.2.2 i (by omega)
      · rw [if_pos (by omega)]
        exact l1 i (by omega)
    · split
      · rw [if_neg (by omega), if_neg (by omega)]
        have h3 := l2 (les M key) (Nat.le_refl _) (by omega)
        have h4 := hne (by omega)
        have e : i + 1 - 1 = les M key := by omega
        rw [e]
        omega
      · rw [if_neg (by omega), if_neg (by omega)]
        have := h.1.2.2 (i - 1) (by omega)
        have e : i + 1 - 1 = i - 1 + 1 := by omega
        rw [e]
        exact this
theorem Inv.setV {M : AM} (h : Inv M) {p v : Nat} (hv : v < 1000000) : Inv (setV M p v) := by
  refine ⟨⟨h.1.1, fun i hi => ⟨(h.1.2.1 i hi).1, ?_, (h.1.2.1 i hi).2.2⟩, h.1.2.2⟩, h.2⟩
  show upN M.2.2.1 p v i < 1000000
  unfold upN
  split
  · exact hv
  · exact (h.1.2.1 i hi).2.1
