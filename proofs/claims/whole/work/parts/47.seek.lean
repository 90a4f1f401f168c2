/-! seek. -/
def okSk (l f : Int32) : Prop := (∃ k, k ≤ 20 ∧ l = nI k) ∧ ∃ k, k ≤ 1 ∧ f = nI k
def sgAdd (g : SG) (m l f : Nat) : SG := (g.1 + 1, upN g.2.1 g.1 m, upN g.2.2.1 g.1 l, upN g.2.2.2 g.1 f)
noncomputable def fSeek (S : SS) (x l f : Int32) : Int32 := gt (okM x) (gt (okSk l f) (gt (S.2.2.2.2.1.1 < 6) (nI (S.2.2.2.2.1.1 + 1)) (-4)) (-2)) (-1)
noncomputable def nSeek (S : SS) (x l f : Int32) : SS := gt (okM x) (gt (okSk l f) (gt (S.2.2.2.2.1.1 < 6) (S.1, S.2.1, S.2.2.1, S.2.2.2.1, sgAdd S.2.2.2.2.1 x.toNatClampNeg l.toNatClampNeg f.toNatClampNeg, S.2.2.2.2.2) S) S) S
theorem SI.seek {S : SS} (hS : SI S) (x l f : Int32) : SI (nSeek S x l f) := by
  unfold nSeek
  by_cases h : okM x
  · rw [gt_t h]
    by_cases h1 : okSk l f
    · rw [gt_t h1]
      by_cases h2 : S.2.2.2.2.1.1 < 6
      · rw [gt_t h2]
        obtain ⟨m, hm, rfl⟩ := okM_nat h
        obtain ⟨⟨a, ha, rfl⟩, b, hb, rfl⟩ := h1
        rw [nI_clamp (by omega), nI_clamp (by omega), nI_clamp (by omega)]
        refine ⟨hS.1, hS.2.1, hS.2.2.1, hS.2.2.2.1, h2, fun i hi => ?_⟩
        show (if i = S.2.2.2.2.1.1 then m else S.2.2.2.2.1.2.1 i) < 2 ∧ (if i = S.2.2.2.2.1.1 then a else S.2.2.2.2.1.2.2.1 i) ≤ 20 ∧ (if i = S.2.2.2.2.1.1 then b else S.2.2.2.2.1.2.2.2 i) < 2
        have hi : i < S.2.2.2.2.1.1 + 1 := hi
        by_cases e : i = S.2.2.2.2.1.1
        · rw [if_pos e, if_pos e, if_pos e]; omega
        · rw [if_neg e, if_neg e, if_neg e]
          exact hS.2.2.2.2.2 i (by omega)
      · rw [gt_f h2]; exact hS
    · rw [gt_f h1]; exact hS
  · rw [gt_f h]; exact hS
theorem c_seek {S : SS} (hS : SI S) (x l f : Int32) : CSpec 74 [.inl x, .inl l, .inl f] S (.inl (fSeek S x l f)) (nSeek S x l f) := by
  intro σ hC
  have hl := hS.2.2.2.2.1
  have ht := hC.2.2.2.2.1
  unfold fSeek nSeek
  refine G_call rfl (ev_isMap x σ) ?_
  rintro r1 σ1 ⟨rfl, ⟨h1, rfl⟩ | ⟨h1, rfl⟩⟩
  · have h1 : okM x := h1
    refine G_if rfl (fun q => ?_) (fun q => ?_)
    · rw [gt_t h1, gt_t h1]
      have bad : ¬ okSk l f → RR 74 28 [some rT, some (.inl x), some (.inl l), some (.inl f)] [] σ1 (fun q σ' => q = some (.inl (gt (okSk l f) (gt (S.2.2.2.2.1.1 < 6) (nI (S.2.2.2.2.1.1 + 1)) (-4)) (-2))) ∧ CS σ' (gt (okSk l f) (gt (S.2.2.2.2.1.1 < 6) (S.1, S.2.1, S.2.2.1, S.2.2.2.1, sgAdd S.2.2.2.2.1 x.toNatClampNeg l.toNatClampNeg f.toNatClampNeg, S.2.2.2.2.2) S) S) ∧ mEq σ1 σ') := by
        intro h
        rw [gt_f h, gt_f h]
        exact G_ret rfl ⟨rfl, hC, mEq.rf _⟩
      refine G_if rfl (fun q1 => ?_) (fun q1 => ?_)
      · exact bad (fun e => absurd q1 (Int32.not_lt.mpr ((irng (n := 20) (by decide)).mpr e.1).1))
      refine G_if rfl (fun q2 => ?_) (fun q2 => ?_)
      · exact bad (fun e => absurd q2 (Int32.not_lt.mpr ((irng (n := 20) (by decide)).mpr e.1).2))
      refine G_if rfl (fun q3 => ?_) (fun q3 => ?_)
      · exact bad (fun e => absurd q3 (Int32.not_lt.mpr ((irng (n := 1) (by decide)).mpr e.2).1))
      refine G_if rfl (fun q4 => ?_) (fun q4 => ?_)
      · have h : okSk l f := ⟨(irng (n := 20) (by decide)).mp ⟨Int32.not_lt.mp q1, Int32.not_lt.mp q2⟩, (irng (n := 1) (by decide)).mp ⟨Int32.not_lt.mp q3, q4⟩⟩
        rw [gt_t h, gt_t h]
        obtain ⟨m, hm, rfl⟩ := okM_nat h1
        obtain ⟨⟨a, ha, rfl⟩, b, hb, rfl⟩ := h
        rw [nI_clamp (by omega), nI_clamp (by omega), nI_clamp (by omega)]
        have hadd : Ev 33 [.inr (.inr (3, 0)), .inl (nI m), .inl (nI a), .inl (nI b)] σ1 (fun r σ' => (S.2.2.2.2.1.1 < 6 ∧ r = some (.inl 1) ∧ σ' = (hset (hset (hset (hset σ1.1 15 0 S.2.2.2.2.1.1 (nI m)) 16 0 S.2.2.2.2.1.1 (nI a)) 17 0 S.2.2.2.2.1.1 (nI b)) 3 0 3 (nI (S.2.2.2.2.1.1 + 1)), σ1.2)) ∨ (¬ S.2.2.2.2.1.1 < 6 ∧ r = some (.inl 0) ∧ σ' = σ1)) := by
          refine G_if rfl (fun q3 => ?_) (fun q3 => ?_)
          · have q3 : S.2.2.2.2.1.1 < 6 := by
              rw [ht.1] at q3
              exact ilt (b := 6) q3 (by omega) (by decide)
            refine G_ast rfl S.2.2.2.2.1.1 (by rw [ht.1]) (by omega) (by decide) ?_
            refine G_ast rfl S.2.2.2.2.1.1 (by show σ1.1 3 0 3 = _; rw [ht.1]) (by omega) (by decide) ?_
            refine G_ast rfl S.2.2.2.2.1.1 (by show σ1.1 3 0 3 = _; rw [ht.1]) (by omega) (by decide) ?_
            refine G_retZ rfl (Or.inr rfl) (Or.inl ⟨q3, rfl, ?_⟩)
            show (hset (hset (hset (hset σ1.1 15 0 S.2.2.2.2.1.1 (nI m)) 16 0 S.2.2.2.2.1.1 (nI a)) 17 0 S.2.2.2.2.1.1 (nI b)) 3 0 3 (σ1.1 3 0 3 + 1), σ1.2) = _
            rw [ht.1, nI_1]
          · refine G_retZ rfl (Or.inl rfl) (Or.inr ⟨fun e => q3 ?_, rfl, rfl⟩)
            rw [ht.1]
            exact nI_lt (b := 6) e (by decide)
        refine G_call rfl hadd ?_
        rintro r1 σ2 (⟨h2, rfl, rfl⟩ | ⟨h2, rfl, rfl⟩)
        · rw [gt_t h2, gt_t h2]
          refine G_if rfl (fun q3 => ?_) (fun q3 => ?_)
          · exact absurd q3 (by decide)
          · refine G_ret rfl ⟨rfl, hC.sgt (fun k' q1 q2 q3 q4 => ?_) rfl ⟨rfl, fun i hi => ?_⟩, ((((mEq.rf σ1).st (by decide)).st (by decide)).st (by decide)).st (by decide)⟩
            · show hset (hset (hset (hset σ1.1 15 0 S.2.2.2.2.1.1 (nI m)) 16 0 S.2.2.2.2.1.1 (nI a)) 17 0 S.2.2.2.2.1.1 (nI b)) 3 0 3 (nI (S.2.2.2.2.1.1 + 1)) k' = _
              rw [hk q1, hk q4, hk q3, hk q2]
            · have hi : i < S.2.2.2.2.1.1 + 1 := hi
              show hset σ1.1 15 0 S.2.2.2.2.1.1 (nI m) 15 0 i = nI (if i = S.2.2.2.2.1.1 then m else S.2.2.2.2.1.2.1 i) ∧ hset σ1.1 16 0 S.2.2.2.2.1.1 (nI a) 16 0 i = nI (if i = S.2.2.2.2.1.1 then a else S.2.2.2.2.1.2.2.1 i) ∧ hset σ1.1 17 0 S.2.2.2.2.1.1 (nI b) 17 0 i = nI (if i = S.2.2.2.2.1.1 then b else S.2.2.2.2.1.2.2.2 i)
              by_cases e : i = S.2.2.2.2.1.1
              · rw [if_pos e, if_pos e, if_pos e, e, ix_eq0, ix_eq0, ix_eq0]
                exact ⟨rfl, rfl, rfl⟩
              · rw [if_neg e, if_neg e, if_neg e, hs_ne e, hs_ne e, hs_ne e]
                exact ht.2 i (by omega)
        · rw [gt_f h2, gt_f h2]
          refine G_if rfl (fun q3 => ?_) (fun q3 => ?_)
          · exact G_ret rfl ⟨rfl, hC, mEq.rf _⟩
          · exact absurd rfl q3
      · exact bad (fun e => absurd ((irng (n := 1) (by decide)).mpr e.2).2 q4)
    · exact absurd (by decide) q
  · have h1 : ¬ okM x := h1
    refine G_if rfl (fun q => ?_) (fun q => ?_)
    · exact absurd rfl q
    · rw [gt_f h1, gt_f h1]
      exact G_ret rfl ⟨rfl, hC, mEq.rf _⟩
theorem m_seek {S : SS} (hS : SI S) (x l f : Int32) : MSpec 145 [.inl x, .inl l, .inl f] S (.inl (fSeek S x l f)) (nSeek S x l f) := by
  intro σ hM
  have hM0 := hM.scr (frS.th σ)
  have hc0 := (frS.th σ).c
  have hl := hS.2.2.2.2.1
  have ht := hM0.2.2.2.2.1
  have ht1 : hset σ.1 6 0 0 0 6 0 14 = nI S.2.2.2.2.1.1 := ht.1
  unfold fSeek nSeek
  refine G_call rfl (ev_noMap x _) ?_
  rintro r1 σ1 ⟨rfl, ⟨a1, a2, rfl⟩ | ⟨h1, rfl⟩⟩
  · have h1 : okM x := i01'.mp ⟨a1, a2⟩
    refine G_if rfl (fun q => ?_) (fun q => ?_)
    · rw [gt_t h1, gt_t h1]
      have bad : ¬ okSk l f → RR 145 36 [some rMo, some (.inl x), some (.inl l), some (.inl f)] [] (hset σ.1 6 0 0 0, σ.2) (fun q σ' => q = some (.inl (gt (okSk l f) (gt (S.2.2.2.2.1.1 < 6) (nI (S.2.2.2.2.1.1 + 1)) (-4)) (-2))) ∧ MS σ' (gt (okSk l f) (gt (S.2.2.2.2.1.1 < 6) (S.1, S.2.1, S.2.2.1, S.2.2.2.1, sgAdd S.2.2.2.2.1 x.toNatClampNeg l.toNatClampNeg f.toNatClampNeg, S.2.2.2.2.2) S) S) ∧ cEq σ σ') := by
        intro h
        rw [gt_f h, gt_f h]
        exact G_ret rfl ⟨rfl, hM0, hc0⟩
      refine G_call rfl (ev_inI l 0 20 _) ?_
      rintro r1 σ1 ⟨rfl, ⟨g1, rfl⟩ | ⟨g1, rfl⟩⟩
      · refine G_if rfl (fun q1 => absurd q1 (by decide)) (fun q1 => ?_)
        refine G_call rfl (ev_inI f 0 1 _) ?_
        rintro r1 σ1 ⟨rfl, ⟨g2, rfl⟩ | ⟨g2, rfl⟩⟩
        · refine G_if rfl (fun q1 => ?_) (fun q1 => absurd (by decide) q1)
          have h : okSk l f := ⟨(irng (n := 20) (by decide)).mp g1, (irng (n := 1) (by decide)).mp g2⟩
          rw [gt_t h, gt_t h]
          obtain ⟨m, hm, rfl⟩ := okM_nat h1
          obtain ⟨⟨a, ha, rfl⟩, b, hb, rfl⟩ := h
          rw [nI_clamp (by omega), nI_clamp (by omega), nI_clamp (by omega)]
          refine G_if rfl (fun q2 => ?_) (fun q2 => ?_)
          · have h2 : S.2.2.2.2.1.1 < 6 := by
              rcases Nat.lt_or_ge S.2.2.2.2.1.1 6 with h | h
              · exact h
              · exact absurd (by show hset σ.1 6 0 0 0 6 0 14 = 6; rw [ht1, show S.2.2.2.2.1.1 = 6 by omega]; rfl) q2
            rw [gt_t h2, gt_t h2]
            refine G_ast rfl S.2.2.2.2.1.1 (by show hset σ.1 6 0 0 0 6 0 14 = _; rw [ht1]) (by omega) (by decide) ?_
            refine G_ast rfl S.2.2.2.2.1.1 (by show hset σ.1 6 0 0 0 6 0 14 = _; rw [ht1]) (by omega) (by decide) ?_
            refine G_ast rfl S.2.2.2.2.1.1 (by show hset σ.1 6 0 0 0 6 0 14 = _; rw [ht1]) (by omega) (by decide) ?_
            refine G_ret rfl ⟨?_, hM.sgt (fun k' q1 q2 q3 q4 => ?_) (fun s q => ?_) rfl ⟨?_, fun i hi => ?_⟩, (((hc0.st (by decide)).st (by decide)).st (by decide)).st (by decide)⟩
            · show some (Sum.inl (hset σ.1 6 0 0 0 6 0 14 + 1)) = _
              rw [ht1, nI_1]
            · show hset (hset (hset (hset (hset σ.1 6 0 0 0) 26 0 S.2.2.2.2.1.1 (nI m)) 27 0 S.2.2.2.2.1.1 (nI a)) 28 0 S.2.2.2.2.1.1 (nI b)) 6 0 14 (hset σ.1 6 0 0 0 6 0 14 + 1) k' = _
              rw [hk q1, hk q4, hk q3, hk q2, hk q1]
            · rcases q with rfl | rfl <;> rfl
            · show hset σ.1 6 0 0 0 6 0 14 + 1 = _
              rw [ht1, nI_1]
              rfl
            · have hi : i < S.2.2.2.2.1.1 + 1 := hi
              show hset (hset σ.1 6 0 0 0) 26 0 S.2.2.2.2.1.1 (nI m) 26 0 i = nI (if i = S.2.2.2.2.1.1 then m else S.2.2.2.2.1.2.1 i) ∧ hset (hset σ.1 6 0 0 0) 27 0 S.2.2.2.2.1.1 (nI a) 27 0 i = nI (if i = S.2.2.2.2.1.1 then a else S.2.2.2.2.1.2.2.1 i) ∧ hset (hset σ.1 6 0 0 0) 28 0 S.2.2.2.2.1.1 (nI b) 28 0 i = nI (if i = S.2.2.2.2.1.1 then b else S.2.2.2.2.1.2.2.2 i)
              by_cases e : i = S.2.2.2.2.1.1
              · rw [if_pos e, if_pos e, if_pos e, e, ix_eq0, ix_eq0, ix_eq0]
                exact ⟨rfl, rfl, rfl⟩
              · rw [if_neg e, if_neg e, if_neg e, hs_ne e, hs_ne e, hs_ne e]
                exact ht.2 i (by omega)
          · have h2 : ¬ S.2.2.2.2.1.1 < 6 := by
              have q2 := Classical.not_not.mp q2
              rw [show (hset σ.1 6 0 0 0, σ.2).1 6 0 14 = _ from ht1] at q2
              have := ieq (b := 6) q2 (by omega) (by decide)
              omega
            rw [gt_f h2, gt_f h2]
            exact G_ret rfl ⟨rfl, hM0, hc0⟩
        · refine G_if rfl (fun q1 => absurd rfl q1) (fun q1 => ?_)
          exact bad (fun e => g2 ((irng (n := 1) (by decide)).mpr e.2))
      · refine G_if rfl (fun q1 => ?_) (fun q1 => absurd rfl q1)
        exact bad (fun e => g1 ((irng (n := 20) (by decide)).mpr e.1))
    · exact absurd rfl q
  · have h1 : ¬ okM x := fun q => h1 (i01'.mpr q)
    refine G_if rfl (fun q => ?_) (fun q => ?_)
    · exact absurd q (by decide)
    · rw [gt_f h1, gt_f h1]
      exact G_ret rfl ⟨rfl, hM0, hc0⟩
