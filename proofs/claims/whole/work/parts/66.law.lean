/-! The law: each kind of call, then its loop. Laid by wip/whole/mk66.py. -/
theorem cmp_self (x : Int64) : lg_cmp x x = 0 := by
  have h1 : ¬ lg_cmp x x < 0 := fun e => by
    have h := Int64.lt_iff_toInt_lt.mp ((lg_cmp_lt _ _).mp e)
    omega
  have h2 : ¬ 0 < lg_cmp x x := fun e => by
    have h := Int64.lt_iff_toInt_lt.mp ((lg_cmp_gt _ _).mp e)
    omega
  exact Int32.le_antisymm (Int32.not_lt.mp h2) (Int32.not_lt.mp h1)
theorem SI.wipe {S : SS} (h : SI S) : SI (S.1, S.2.1, S.2.2.1, (0, S.2.2.2.1.2), S.2.2.2.2) := ⟨h.1, h.2.1, h.2.2.1, ⟨Nat.zero_le _, fun i hi => absurd hi (Nat.not_lt_zero _)⟩, h.2.2.2.2⟩
theorem SI.unseek {S : SS} (h : SI S) : SI (S.1, S.2.1, S.2.2.1, S.2.2.2.1, (0, S.2.2.2.2.1.2), S.2.2.2.2.2) := ⟨h.1, h.2.1, h.2.2.1, h.2.2.2.1, ⟨Nat.zero_le _, fun i hi => absurd hi (Nat.not_lt_zero _)⟩⟩
theorem SI.seed {S : SS} (h : SI S) (v : Int64) : SI (S.1, S.2.1, S.2.2.1, S.2.2.2.1, S.2.2.2.2.1, v) := h
theorem SI.undo {S : SS} (h : SI S) : SI (nUndo S) := by
  unfold nUndo
  by_cases h0 : S.2.1.1 = 0
  · rw [gt_t h0]; exact h
  · rw [gt_f h0]; exact h.pop (by omega)
/-- both systems hold one state; the script is as it was -/
def Gd (L : Nat) (xs : Nat → Int32) (σ : Hp) (S : SS) : Prop := CS σ S ∧ MS σ S ∧ SI S ∧ facOk σ ∧ σ.2.2 = L ∧ ∀ j, σ.1 32 0 j = xs j
theorem Gd.nx {L : Nat} {xs : Nat → Int32} {σ σ1 σ2 : Hp} {S S' : SS} (h : Gd L xs σ S) (m1 : mEq σ σ1) (hC : CS σ1 S') (c2 : cEq σ1 σ2) (hM : MS σ2 S') (hS : SI S') : Gd L xs σ2 S' := ⟨hC.of c2, hM, hS, (h.2.2.2.1.m m1).c c2, c2.2.2.trans (m1.2.2.trans h.2.2.2.2.1), fun j => by
  rw [c2.1 32 (by decide), m1.1 32 (by decide)]
  exact h.2.2.2.2.2 j⟩
theorem Gd.x1 {L : Nat} {xs : Nat → Int32} {σ σ1 : Hp} {S : SS} (h : Gd L xs σ S) (m1 : mEq σ σ1) : ∀ j, σ1.1 32 0 j = xs j := fun j => by
  rw [m1.1 32 (by decide)]
  exact h.2.2.2.2.2 j
theorem Gd.l1 {L : Nat} {xs : Nat → Int32} {σ σ1 : Hp} {S : SS} (h : Gd L xs σ S) (m1 : mEq σ σ1) : σ1.2.2 = L := m1.2.2.trans h.2.2.2.2.1
theorem ax1 (i : Nat) : nI i + 1 = nI (i + 1) := nI_1 i
theorem ax2 (i : Nat) : nI i + 2 = nI (i + 2) := nI_add i 2
theorem ax3 (i : Nat) : nI i + 3 = nI (i + 3) := nI_add i 3
theorem ax4 (i : Nat) : nI i + 4 = nI (i + 4) := nI_add i 4
theorem ax5 (i : Nat) : nI i + 5 = nI (i + 5) := nI_add i 5
set_option maxRecDepth 100000 in
theorem lw_write {L i : Nat} {xs : Nat → Int32} {σ : Hp} {S : SS} {Q : Option PV → Hp → Prop} (hG : Gd L xs σ S) (hi : i + 5 ≤ L) (hL : L ≤ 2560) (next : ∀ σ' S', Gd L xs σ' S' → RR 159 1231 [some (.inr (.inr (32, 0))), some rT, some rMo, some (.inl (nI i))] [] σ' Q) : RR 159 168 [some (.inr (.inr (32, 0))), some rT, some rMo, some (.inl (nI i))] [] σ Q := by
  obtain ⟨hC, hM, hS, hF, hl, hx⟩ := id hG
  refine G_ald rfl (i + 1) (ax1 i) (by rw [hl]; omega) (by rw [hl]; omega) ?_
  rw [hx (i + 1)]
  refine G_call rfl (c_write hS _ σ hC) ?_
  rintro r1 σ1 ⟨rfl, hC1, m1⟩
  have hx1 := hG.x1 m1
  have hl1 := hG.l1 m1
  refine G_ald rfl (i + 1) (ax1 i) (by rw [hl1]; omega) (by rw [hl1]; omega) ?_
  rw [hx1 (i + 1)]
  refine G_call rfl (m_write hS _ σ1 (hM.of m1)) ?_
  rintro r1 σ2 ⟨rfl, hM2, c2⟩
  refine G_if rfl (fun q3 => ?_) (fun q3 => absurd rfl q3)
  exact next σ2 _ (hG.nx m1 hC1 c2 hM2 (hS.write _))
set_option maxRecDepth 100000 in
theorem lw_wipe {L i : Nat} {xs : Nat → Int32} {σ : Hp} {S : SS} {Q : Option PV → Hp → Prop} (hG : Gd L xs σ S) (hi : i + 5 ≤ L) (hL : L ≤ 2560) (next : ∀ σ' S', Gd L xs σ' S' → RR 159 1231 [some (.inr (.inr (32, 0))), some rT, some rMo, some (.inl (nI i))] [] σ' Q) : RR 159 191 [some (.inr (.inr (32, 0))), some rT, some rMo, some (.inl (nI i))] [] σ Q := by
  obtain ⟨hC, hM, hS, hF, hl, hx⟩ := id hG
  refine G_call rfl (c_wipe S σ hC) ?_
  rintro r1 σ1 ⟨rfl, hC1, m1⟩
  have hx1 := hG.x1 m1
  have hl1 := hG.l1 m1
  refine G_call rfl (m_wipe S σ1 (hM.of m1)) ?_
  rintro r1 σ2 ⟨rfl, hM2, c2⟩
  refine G_if rfl (fun q3 => ?_) (fun q3 => absurd rfl q3)
  exact next σ2 _ (hG.nx m1 hC1 c2 hM2 (hS.wipe))
set_option maxRecDepth 100000 in
theorem lw_fault {L i : Nat} {xs : Nat → Int32} {σ : Hp} {S : SS} {Q : Option PV → Hp → Prop} (hG : Gd L xs σ S) (hi : i + 5 ≤ L) (hL : L ≤ 2560) (next : ∀ σ' S', Gd L xs σ' S' → RR 159 1231 [some (.inr (.inr (32, 0))), some rT, some rMo, some (.inl (nI i))] [] σ' Q) : RR 159 204 [some (.inr (.inr (32, 0))), some rT, some rMo, some (.inl (nI i))] [] σ Q := by
  obtain ⟨hC, hM, hS, hF, hl, hx⟩ := id hG
  refine G_call rfl (c_fault hS σ hC) ?_
  rintro r1 σ1 ⟨rfl, hC1, m1⟩
  have hx1 := hG.x1 m1
  have hl1 := hG.l1 m1
  refine G_call rfl (m_fault hS σ1 (hM.of m1)) ?_
  rintro r1 σ2 ⟨rfl, hM2, c2⟩
  refine G_if rfl (fun q3 => ?_) (fun q3 => absurd rfl q3)
  exact next σ2 _ (hG.nx m1 hC1 c2 hM2 (hS))
set_option maxRecDepth 100000 in
theorem lw_shape {L i : Nat} {xs : Nat → Int32} {σ : Hp} {S : SS} {Q : Option PV → Hp → Prop} (hG : Gd L xs σ S) (hi : i + 5 ≤ L) (hL : L ≤ 2560) (next : ∀ σ' S', Gd L xs σ' S' → RR 159 1231 [some (.inr (.inr (32, 0))), some rT, some rMo, some (.inl (nI i))] [] σ' Q) : RR 159 217 [some (.inr (.inr (32, 0))), some rT, some rMo, some (.inl (nI i))] [] σ Q := by
  obtain ⟨hC, hM, hS, hF, hl, hx⟩ := id hG
  refine G_ald rfl (i + 1) (ax1 i) (by rw [hl]; omega) (by rw [hl]; omega) ?_
  rw [hx (i + 1)]
  refine G_call rfl (c_shape hS _ σ hC) ?_
  rintro r1 σ1 ⟨rfl, hC1, m1⟩
  have hx1 := hG.x1 m1
  have hl1 := hG.l1 m1
  refine G_ald rfl (i + 1) (ax1 i) (by rw [hl1]; omega) (by rw [hl1]; omega) ?_
  rw [hx1 (i + 1)]
  refine G_call rfl (m_shape hS _ σ1 (hM.of m1)) ?_
  rintro r1 σ2 ⟨rfl, hM2, c2⟩
  refine G_if rfl (fun q3 => ?_) (fun q3 => absurd rfl q3)
  exact next σ2 _ (hG.nx m1 hC1 c2 hM2 (hS.shape _))
set_option maxRecDepth 100000 in
theorem lw_put {L i : Nat} {xs : Nat → Int32} {σ : Hp} {S : SS} {Q : Option PV → Hp → Prop} (hG : Gd L xs σ S) (hi : i + 5 ≤ L) (hL : L ≤ 2560) (next : ∀ σ' S', Gd L xs σ' S' → RR 159 1231 [some (.inr (.inr (32, 0))), some rT, some rMo, some (.inl (nI i))] [] σ' Q) : RR 159 240 [some (.inr (.inr (32, 0))), some rT, some rMo, some (.inl (nI i))] [] σ Q := by
  obtain ⟨hC, hM, hS, hF, hl, hx⟩ := id hG
  refine G_ald rfl (i + 1) (ax1 i) (by rw [hl]; omega) (by rw [hl]; omega) ?_
  rw [hx (i + 1)]
  refine G_ald rfl (i + 2) (ax2 i) (by rw [hl]; omega) (by rw [hl]; omega) ?_
  rw [hx (i + 2)]
  refine G_ald rfl (i + 3) (ax3 i) (by rw [hl]; omega) (by rw [hl]; omega) ?_
  rw [hx (i + 3)]
  refine G_call rfl (c_put hS _ _ _ σ hC) ?_
  rintro r1 σ1 ⟨rfl, hC1, m1⟩
  have hx1 := hG.x1 m1
  have hl1 := hG.l1 m1
  refine G_ald rfl (i + 1) (ax1 i) (by rw [hl1]; omega) (by rw [hl1]; omega) ?_
  rw [hx1 (i + 1)]
  refine G_ald rfl (i + 2) (ax2 i) (by rw [hl1]; omega) (by rw [hl1]; omega) ?_
  rw [hx1 (i + 2)]
  refine G_ald rfl (i + 3) (ax3 i) (by rw [hl1]; omega) (by rw [hl1]; omega) ?_
  rw [hx1 (i + 3)]
  refine G_call rfl (m_put hS _ _ _ σ1 (hM.of m1)) ?_
  rintro r1 σ2 ⟨rfl, hM2, c2⟩
  refine G_if rfl (fun q3 => ?_) (fun q3 => absurd rfl q3)
  exact next σ2 _ (hG.nx m1 hC1 c2 hM2 (hS.put _ _ _))
set_option maxRecDepth 100000 in
theorem lw_remove {L i : Nat} {xs : Nat → Int32} {σ : Hp} {S : SS} {Q : Option PV → Hp → Prop} (hG : Gd L xs σ S) (hi : i + 5 ≤ L) (hL : L ≤ 2560) (next : ∀ σ' S', Gd L xs σ' S' → RR 159 1231 [some (.inr (.inr (32, 0))), some rT, some rMo, some (.inl (nI i))] [] σ' Q) : RR 159 283 [some (.inr (.inr (32, 0))), some rT, some rMo, some (.inl (nI i))] [] σ Q := by
  obtain ⟨hC, hM, hS, hF, hl, hx⟩ := id hG
  refine G_ald rfl (i + 1) (ax1 i) (by rw [hl]; omega) (by rw [hl]; omega) ?_
  rw [hx (i + 1)]
  refine G_ald rfl (i + 2) (ax2 i) (by rw [hl]; omega) (by rw [hl]; omega) ?_
  rw [hx (i + 2)]
  refine G_call rfl (c_remove hS _ _ σ hC) ?_
  rintro r1 σ1 ⟨rfl, hC1, m1⟩
  have hx1 := hG.x1 m1
  have hl1 := hG.l1 m1
  refine G_ald rfl (i + 1) (ax1 i) (by rw [hl1]; omega) (by rw [hl1]; omega) ?_
  rw [hx1 (i + 1)]
  refine G_ald rfl (i + 2) (ax2 i) (by rw [hl1]; omega) (by rw [hl1]; omega) ?_
  rw [hx1 (i + 2)]
  refine G_call rfl (m_remove hS _ _ σ1 (hM.of m1)) ?_
  rintro r1 σ2 ⟨rfl, hM2, c2⟩
  refine G_if rfl (fun q3 => ?_) (fun q3 => absurd rfl q3)
  exact next σ2 _ (hG.nx m1 hC1 c2 hM2 (hS.rem _ _))
set_option maxRecDepth 100000 in
theorem lw_cut {L i : Nat} {xs : Nat → Int32} {σ : Hp} {S : SS} {Q : Option PV → Hp → Prop} (hG : Gd L xs σ S) (hi : i + 5 ≤ L) (hL : L ≤ 2560) (next : ∀ σ' S', Gd L xs σ' S' → RR 159 1231 [some (.inr (.inr (32, 0))), some rT, some rMo, some (.inl (nI i))] [] σ' Q) : RR 159 316 [some (.inr (.inr (32, 0))), some rT, some rMo, some (.inl (nI i))] [] σ Q := by
  obtain ⟨hC, hM, hS, hF, hl, hx⟩ := id hG
  refine G_ald rfl (i + 1) (ax1 i) (by rw [hl]; omega) (by rw [hl]; omega) ?_
  rw [hx (i + 1)]
  refine G_ald rfl (i + 2) (ax2 i) (by rw [hl]; omega) (by rw [hl]; omega) ?_
  rw [hx (i + 2)]
  refine G_ald rfl (i + 3) (ax3 i) (by rw [hl]; omega) (by rw [hl]; omega) ?_
  rw [hx (i + 3)]
  refine G_call rfl (c_cut hS _ _ _ σ hC) ?_
  rintro r1 σ1 ⟨rfl, hC1, m1⟩
  have hx1 := hG.x1 m1
  have hl1 := hG.l1 m1
  refine G_ald rfl (i + 1) (ax1 i) (by rw [hl1]; omega) (by rw [hl1]; omega) ?_
  rw [hx1 (i + 1)]
  refine G_ald rfl (i + 2) (ax2 i) (by rw [hl1]; omega) (by rw [hl1]; omega) ?_
  rw [hx1 (i + 2)]
  refine G_ald rfl (i + 3) (ax3 i) (by rw [hl1]; omega) (by rw [hl1]; omega) ?_
  rw [hx1 (i + 3)]
  refine G_call rfl (m_cut hS _ _ _ σ1 (hM.of m1)) ?_
  rintro r1 σ2 ⟨rfl, hM2, c2⟩
  refine G_if rfl (fun q3 => ?_) (fun q3 => absurd rfl q3)
  exact next σ2 _ (hG.nx m1 hC1 c2 hM2 (hS.cut _ _ _))
set_option maxRecDepth 100000 in
theorem lw_undo {L i : Nat} {xs : Nat → Int32} {σ : Hp} {S : SS} {Q : Option PV → Hp → Prop} (hG : Gd L xs σ S) (hi : i + 5 ≤ L) (hL : L ≤ 2560) (next : ∀ σ' S', Gd L xs σ' S' → RR 159 1231 [some (.inr (.inr (32, 0))), some rT, some rMo, some (.inl (nI i))] [] σ' Q) : RR 159 359 [some (.inr (.inr (32, 0))), some rT, some rMo, some (.inl (nI i))] [] σ Q := by
  obtain ⟨hC, hM, hS, hF, hl, hx⟩ := id hG
  refine G_call rfl (c_undo hS σ hC) ?_
  rintro r1 σ1 ⟨rfl, hC1, m1⟩
  have hx1 := hG.x1 m1
  have hl1 := hG.l1 m1
  refine G_call rfl (m_undo hS σ1 (hM.of m1)) ?_
  rintro r1 σ2 ⟨rfl, hM2, c2⟩
  refine G_if rfl (fun q3 => ?_) (fun q3 => absurd rfl q3)
  exact next σ2 _ (hG.nx m1 hC1 c2 hM2 (hS.undo))
set_option maxRecDepth 100000 in
theorem lw_about {L i : Nat} {xs : Nat → Int32} {σ : Hp} {S : SS} {Q : Option PV → Hp → Prop} (hG : Gd L xs σ S) (hi : i + 5 ≤ L) (hL : L ≤ 2560) (next : ∀ σ' S', Gd L xs σ' S' → RR 159 1231 [some (.inr (.inr (32, 0))), some rT, some rMo, some (.inl (nI i))] [] σ' Q) : RR 159 372 [some (.inr (.inr (32, 0))), some rT, some rMo, some (.inl (nI i))] [] σ Q := by
  obtain ⟨hC, hM, hS, hF, hl, hx⟩ := id hG
  refine G_ald rfl (i + 1) (ax1 i) (by rw [hl]; omega) (by rw [hl]; omega) ?_
  rw [hx (i + 1)]
  refine G_ald rfl (i + 2) (ax2 i) (by rw [hl]; omega) (by rw [hl]; omega) ?_
  rw [hx (i + 2)]
  refine G_call rfl (c_about hS _ _ σ hC) ?_
  rintro r1 σ1 ⟨rfl, hC1, m1⟩
  have hx1 := hG.x1 m1
  have hl1 := hG.l1 m1
  refine G_ald rfl (i + 1) (ax1 i) (by rw [hl1]; omega) (by rw [hl1]; omega) ?_
  rw [hx1 (i + 1)]
  refine G_ald rfl (i + 2) (ax2 i) (by rw [hl1]; omega) (by rw [hl1]; omega) ?_
  rw [hx1 (i + 2)]
  refine G_call rfl (m_about hS _ _ σ1 (hM.of m1)) ?_
  rintro r1 σ2 ⟨rfl, hM2, c2⟩
  refine G_if rfl (fun q3 => ?_) (fun q3 => absurd rfl q3)
  exact next σ2 _ (hG.nx m1 hC1 c2 hM2 (hS))
set_option maxRecDepth 100000 in
theorem lw_item {L i : Nat} {xs : Nat → Int32} {σ : Hp} {S : SS} {Q : Option PV → Hp → Prop} (hG : Gd L xs σ S) (hi : i + 5 ≤ L) (hL : L ≤ 2560) (next : ∀ σ' S', Gd L xs σ' S' → RR 159 1231 [some (.inr (.inr (32, 0))), some rT, some rMo, some (.inl (nI i))] [] σ' Q) : RR 159 405 [some (.inr (.inr (32, 0))), some rT, some rMo, some (.inl (nI i))] [] σ Q := by
  obtain ⟨hC, hM, hS, hF, hl, hx⟩ := id hG
  refine G_ald rfl (i + 1) (ax1 i) (by rw [hl]; omega) (by rw [hl]; omega) ?_
  rw [hx (i + 1)]
  refine G_ald rfl (i + 2) (ax2 i) (by rw [hl]; omega) (by rw [hl]; omega) ?_
  rw [hx (i + 2)]
  refine G_ald rfl (i + 3) (ax3 i) (by rw [hl]; omega) (by rw [hl]; omega) ?_
  rw [hx (i + 3)]
  refine G_call rfl (c_item hS _ _ _ σ hC) ?_
  rintro r1 σ1 ⟨rfl, hC1, m1⟩
  have hx1 := hG.x1 m1
  have hl1 := hG.l1 m1
  refine G_ald rfl (i + 1) (ax1 i) (by rw [hl1]; omega) (by rw [hl1]; omega) ?_
  rw [hx1 (i + 1)]
  refine G_ald rfl (i + 2) (ax2 i) (by rw [hl1]; omega) (by rw [hl1]; omega) ?_
  rw [hx1 (i + 2)]
  refine G_ald rfl (i + 3) (ax3 i) (by rw [hl1]; omega) (by rw [hl1]; omega) ?_
  rw [hx1 (i + 3)]
  refine G_call rfl (m_item hS _ _ _ σ1 (hM.of m1)) ?_
  rintro r1 σ2 ⟨rfl, hM2, c2⟩
  refine G_if rfl (fun q3 => ?_) (fun q3 => absurd rfl q3)
  exact next σ2 _ (hG.nx m1 hC1 c2 hM2 (hS))
set_option maxRecDepth 100000 in
theorem lw_get {L i : Nat} {xs : Nat → Int32} {σ : Hp} {S : SS} {Q : Option PV → Hp → Prop} (hG : Gd L xs σ S) (hi : i + 5 ≤ L) (hL : L ≤ 2560) (next : ∀ σ' S', Gd L xs σ' S' → RR 159 1231 [some (.inr (.inr (32, 0))), some rT, some rMo, some (.inl (nI i))] [] σ' Q) : RR 159 448 [some (.inr (.inr (32, 0))), some rT, some rMo, some (.inl (nI i))] [] σ Q := by
  obtain ⟨hC, hM, hS, hF, hl, hx⟩ := id hG
  refine G_ald rfl (i + 1) (ax1 i) (by rw [hl]; omega) (by rw [hl]; omega) ?_
  rw [hx (i + 1)]
  refine G_ald rfl (i + 2) (ax2 i) (by rw [hl]; omega) (by rw [hl]; omega) ?_
  rw [hx (i + 2)]
  refine G_call rfl (c_get hS _ _ σ hC) ?_
  rintro r1 σ1 ⟨rfl, hC1, m1⟩
  have hx1 := hG.x1 m1
  have hl1 := hG.l1 m1
  refine G_ald rfl (i + 1) (ax1 i) (by rw [hl1]; omega) (by rw [hl1]; omega) ?_
  rw [hx1 (i + 1)]
  refine G_ald rfl (i + 2) (ax2 i) (by rw [hl1]; omega) (by rw [hl1]; omega) ?_
  rw [hx1 (i + 2)]
  refine G_call rfl (m_get hS _ _ σ1 (hM.of m1)) ?_
  rintro r1 σ2 ⟨rfl, hM2, c2⟩
  refine G_if rfl (fun q3 => ?_) (fun q3 => absurd rfl q3)
  exact next σ2 _ (hG.nx m1 hC1 c2 hM2 (hS))
set_option maxRecDepth 100000 in
theorem lw_span {L i : Nat} {xs : Nat → Int32} {σ : Hp} {S : SS} {Q : Option PV → Hp → Prop} (hG : Gd L xs σ S) (hi : i + 5 ≤ L) (hL : L ≤ 2560) (next : ∀ σ' S', Gd L xs σ' S' → RR 159 1231 [some (.inr (.inr (32, 0))), some rT, some rMo, some (.inl (nI i))] [] σ' Q) : RR 159 481 [some (.inr (.inr (32, 0))), some rT, some rMo, some (.inl (nI i))] [] σ Q := by
  obtain ⟨hC, hM, hS, hF, hl, hx⟩ := id hG
  refine G_ald rfl (i + 1) (ax1 i) (by rw [hl]; omega) (by rw [hl]; omega) ?_
  rw [hx (i + 1)]
  refine G_ald rfl (i + 2) (ax2 i) (by rw [hl]; omega) (by rw [hl]; omega) ?_
  rw [hx (i + 2)]
  refine G_ald rfl (i + 3) (ax3 i) (by rw [hl]; omega) (by rw [hl]; omega) ?_
  rw [hx (i + 3)]
  refine G_call rfl (c_span hS _ _ _ σ hC) ?_
  rintro r1 σ1 ⟨rfl, hC1, m1⟩
  have hx1 := hG.x1 m1
  have hl1 := hG.l1 m1
  refine G_ald rfl (i + 1) (ax1 i) (by rw [hl1]; omega) (by rw [hl1]; omega) ?_
  rw [hx1 (i + 1)]
  refine G_ald rfl (i + 2) (ax2 i) (by rw [hl1]; omega) (by rw [hl1]; omega) ?_
  rw [hx1 (i + 2)]
  refine G_ald rfl (i + 3) (ax3 i) (by rw [hl1]; omega) (by rw [hl1]; omega) ?_
  rw [hx1 (i + 3)]
  refine G_call rfl (m_span hS _ _ _ σ1 (hM.of m1)) ?_
  rintro r1 σ2 ⟨rfl, hM2, c2⟩
  refine G_if rfl (fun q3 => ?_) (fun q3 => absurd rfl q3)
  exact next σ2 _ (hG.nx m1 hC1 c2 hM2 (hS))
set_option maxRecDepth 100000 in
theorem lw_rank {L i : Nat} {xs : Nat → Int32} {σ : Hp} {S : SS} {Q : Option PV → Hp → Prop} (hG : Gd L xs σ S) (hi : i + 5 ≤ L) (hL : L ≤ 2560) (next : ∀ σ' S', Gd L xs σ' S' → RR 159 1231 [some (.inr (.inr (32, 0))), some rT, some rMo, some (.inl (nI i))] [] σ' Q) : RR 159 524 [some (.inr (.inr (32, 0))), some rT, some rMo, some (.inl (nI i))] [] σ Q := by
  obtain ⟨hC, hM, hS, hF, hl, hx⟩ := id hG
  refine G_ald rfl (i + 1) (ax1 i) (by rw [hl]; omega) (by rw [hl]; omega) ?_
  rw [hx (i + 1)]
  refine G_ald rfl (i + 2) (ax2 i) (by rw [hl]; omega) (by rw [hl]; omega) ?_
  rw [hx (i + 2)]
  refine G_call rfl (c_rank hS _ _ σ hC) ?_
  rintro r1 σ1 ⟨rfl, hC1, m1⟩
  have hx1 := hG.x1 m1
  have hl1 := hG.l1 m1
  refine G_ald rfl (i + 1) (ax1 i) (by rw [hl1]; omega) (by rw [hl1]; omega) ?_
  rw [hx1 (i + 1)]
  refine G_ald rfl (i + 2) (ax2 i) (by rw [hl1]; omega) (by rw [hl1]; omega) ?_
  rw [hx1 (i + 2)]
  refine G_call rfl (m_rank hS _ _ σ1 (hM.of m1)) ?_
  rintro r1 σ2 ⟨rfl, hM2, c2⟩
  refine G_if rfl (fun q3 => ?_) (fun q3 => absurd rfl q3)
  exact next σ2 _ (hG.nx m1 hC1 c2 hM2 (hS))
set_option maxRecDepth 100000 in
theorem lw_near {L i : Nat} {xs : Nat → Int32} {σ : Hp} {S : SS} {Q : Option PV → Hp → Prop} (hG : Gd L xs σ S) (hi : i + 5 ≤ L) (hL : L ≤ 2560) (next : ∀ σ' S', Gd L xs σ' S' → RR 159 1231 [some (.inr (.inr (32, 0))), some rT, some rMo, some (.inl (nI i))] [] σ' Q) : RR 159 557 [some (.inr (.inr (32, 0))), some rT, some rMo, some (.inl (nI i))] [] σ Q := by
  obtain ⟨hC, hM, hS, hF, hl, hx⟩ := id hG
  refine G_ald rfl (i + 1) (ax1 i) (by rw [hl]; omega) (by rw [hl]; omega) ?_
  rw [hx (i + 1)]
  refine G_ald rfl (i + 2) (ax2 i) (by rw [hl]; omega) (by rw [hl]; omega) ?_
  rw [hx (i + 2)]
  refine G_ald rfl (i + 3) (ax3 i) (by rw [hl]; omega) (by rw [hl]; omega) ?_
  rw [hx (i + 3)]
  refine G_call rfl (c_near hS _ _ _ σ hC) ?_
  rintro r1 σ1 ⟨rfl, hC1, m1⟩
  have hx1 := hG.x1 m1
  have hl1 := hG.l1 m1
  refine G_ald rfl (i + 1) (ax1 i) (by rw [hl1]; omega) (by rw [hl1]; omega) ?_
  rw [hx1 (i + 1)]
  refine G_ald rfl (i + 2) (ax2 i) (by rw [hl1]; omega) (by rw [hl1]; omega) ?_
  rw [hx1 (i + 2)]
  refine G_ald rfl (i + 3) (ax3 i) (by rw [hl1]; omega) (by rw [hl1]; omega) ?_
  rw [hx1 (i + 3)]
  refine G_call rfl (m_near hS _ _ _ σ1 (hM.of m1)) ?_
  rintro r1 σ2 ⟨rfl, hM2, c2⟩
  refine G_if rfl (fun q3 => ?_) (fun q3 => absurd rfl q3)
  exact next σ2 _ (hG.nx m1 hC1 c2 hM2 (hS))
set_option maxRecDepth 100000 in
theorem lw_looks {L i : Nat} {xs : Nat → Int32} {σ : Hp} {S : SS} {Q : Option PV → Hp → Prop} (hG : Gd L xs σ S) (hi : i + 5 ≤ L) (hL : L ≤ 2560) (next : ∀ σ' S', Gd L xs σ' S' → RR 159 1231 [some (.inr (.inr (32, 0))), some rT, some rMo, some (.inl (nI i))] [] σ' Q) : RR 159 600 [some (.inr (.inr (32, 0))), some rT, some rMo, some (.inl (nI i))] [] σ Q := by
  obtain ⟨hC, hM, hS, hF, hl, hx⟩ := id hG
  refine G_ald rfl (i + 1) (ax1 i) (by rw [hl]; omega) (by rw [hl]; omega) ?_
  rw [hx (i + 1)]
  refine G_ald rfl (i + 2) (ax2 i) (by rw [hl]; omega) (by rw [hl]; omega) ?_
  rw [hx (i + 2)]
  refine G_call rfl (c_looks hS _ _ σ hC) ?_
  rintro r1 σ1 ⟨rfl, hC1, m1⟩
  have hx1 := hG.x1 m1
  have hl1 := hG.l1 m1
  refine G_ald rfl (i + 1) (ax1 i) (by rw [hl1]; omega) (by rw [hl1]; omega) ?_
  rw [hx1 (i + 1)]
  refine G_ald rfl (i + 2) (ax2 i) (by rw [hl1]; omega) (by rw [hl1]; omega) ?_
  rw [hx1 (i + 2)]
  refine G_call rfl (m_looks hS _ _ σ1 (hM.of m1)) ?_
  rintro r1 σ2 ⟨rfl, hM2, c2⟩
  refine G_if rfl (fun q3 => ?_) (fun q3 => absurd rfl q3)
  exact next σ2 _ (hG.nx m1 hC1 c2 hM2 (hS))
set_option maxRecDepth 100000 in
theorem lw_sum {L i : Nat} {xs : Nat → Int32} {σ : Hp} {S : SS} {Q : Option PV → Hp → Prop} (hG : Gd L xs σ S) (hi : i + 5 ≤ L) (hL : L ≤ 2560) (next : ∀ σ' S', Gd L xs σ' S' → RR 159 1231 [some (.inr (.inr (32, 0))), some rT, some rMo, some (.inl (nI i))] [] σ' Q) : RR 159 633 [some (.inr (.inr (32, 0))), some rT, some rMo, some (.inl (nI i))] [] σ Q := by
  obtain ⟨hC, hM, hS, hF, hl, hx⟩ := id hG
  refine G_ald rfl (i + 1) (ax1 i) (by rw [hl]; omega) (by rw [hl]; omega) ?_
  rw [hx (i + 1)]
  refine G_ald rfl (i + 2) (ax2 i) (by rw [hl]; omega) (by rw [hl]; omega) ?_
  rw [hx (i + 2)]
  refine G_ald rfl (i + 3) (ax3 i) (by rw [hl]; omega) (by rw [hl]; omega) ?_
  rw [hx (i + 3)]
  refine G_call rfl (c_sum hS _ _ _ σ hC) ?_
  rintro r1 σ1 ⟨rfl, hC1, m1⟩
  have hx1 := hG.x1 m1
  have hl1 := hG.l1 m1
  refine G_ald rfl (i + 1) (ax1 i) (by rw [hl1]; omega) (by rw [hl1]; omega) ?_
  rw [hx1 (i + 1)]
  refine G_ald rfl (i + 2) (ax2 i) (by rw [hl1]; omega) (by rw [hl1]; omega) ?_
  rw [hx1 (i + 2)]
  refine G_ald rfl (i + 3) (ax3 i) (by rw [hl1]; omega) (by rw [hl1]; omega) ?_
  rw [hx1 (i + 3)]
  refine G_call rfl (m_sum hS _ _ _ σ1 (hM.of m1)) ?_
  rintro r1 σ2 ⟨rfl, hM2, c2⟩
  refine G_if rfl (fun q3 => ?_) (fun q3 => absurd rfl q3)
  exact next σ2 _ (hG.nx m1 hC1 c2 hM2 (hS))
set_option maxRecDepth 100000 in
theorem lw_would {L i : Nat} {xs : Nat → Int32} {σ : Hp} {S : SS} {Q : Option PV → Hp → Prop} (hG : Gd L xs σ S) (hi : i + 5 ≤ L) (hL : L ≤ 2560) (next : ∀ σ' S', Gd L xs σ' S' → RR 159 1231 [some (.inr (.inr (32, 0))), some rT, some rMo, some (.inl (nI i))] [] σ' Q) : RR 159 676 [some (.inr (.inr (32, 0))), some rT, some rMo, some (.inl (nI i))] [] σ Q := by
  obtain ⟨hC, hM, hS, hF, hl, hx⟩ := id hG
  refine G_ald rfl (i + 1) (ax1 i) (by rw [hl]; omega) (by rw [hl]; omega) ?_
  rw [hx (i + 1)]
  refine G_ald rfl (i + 2) (ax2 i) (by rw [hl]; omega) (by rw [hl]; omega) ?_
  rw [hx (i + 2)]
  refine G_ald rfl (i + 3) (ax3 i) (by rw [hl]; omega) (by rw [hl]; omega) ?_
  rw [hx (i + 3)]
  refine G_call rfl (c_would hS _ _ _ σ hC) ?_
  rintro r1 σ1 ⟨rfl, hC1, m1⟩
  have hx1 := hG.x1 m1
  have hl1 := hG.l1 m1
  refine G_ald rfl (i + 1) (ax1 i) (by rw [hl1]; omega) (by rw [hl1]; omega) ?_
  rw [hx1 (i + 1)]
  refine G_ald rfl (i + 2) (ax2 i) (by rw [hl1]; omega) (by rw [hl1]; omega) ?_
  rw [hx1 (i + 2)]
  refine G_ald rfl (i + 3) (ax3 i) (by rw [hl1]; omega) (by rw [hl1]; omega) ?_
  rw [hx1 (i + 3)]
  refine G_call rfl (m_would hS _ _ _ σ1 (hM.of m1)) ?_
  rintro r1 σ2 ⟨rfl, hM2, c2⟩
  refine G_if rfl (fun q3 => ?_) (fun q3 => absurd rfl q3)
  exact next σ2 _ (hG.nx m1 hC1 c2 hM2 (hS))
set_option maxRecDepth 100000 in
theorem lw_best {L i : Nat} {xs : Nat → Int32} {σ : Hp} {S : SS} {Q : Option PV → Hp → Prop} (hG : Gd L xs σ S) (hi : i + 5 ≤ L) (hL : L ≤ 2560) (next : ∀ σ' S', Gd L xs σ' S' → RR 159 1231 [some (.inr (.inr (32, 0))), some rT, some rMo, some (.inl (nI i))] [] σ' Q) : RR 159 719 [some (.inr (.inr (32, 0))), some rT, some rMo, some (.inl (nI i))] [] σ Q := by
  obtain ⟨hC, hM, hS, hF, hl, hx⟩ := id hG
  refine G_ald rfl (i + 1) (ax1 i) (by rw [hl]; omega) (by rw [hl]; omega) ?_
  rw [hx (i + 1)]
  refine G_ald rfl (i + 2) (ax2 i) (by rw [hl]; omega) (by rw [hl]; omega) ?_
  rw [hx (i + 2)]
  refine G_call rfl (c_best hS _ _ σ hC) ?_
  rintro r1 σ1 ⟨rfl, hC1, m1⟩
  have hx1 := hG.x1 m1
  have hl1 := hG.l1 m1
  refine G_ald rfl (i + 1) (ax1 i) (by rw [hl1]; omega) (by rw [hl1]; omega) ?_
  rw [hx1 (i + 1)]
  refine G_ald rfl (i + 2) (ax2 i) (by rw [hl1]; omega) (by rw [hl1]; omega) ?_
  rw [hx1 (i + 2)]
  refine G_call rfl (m_best hS _ _ σ1 (hM.of m1)) ?_
  rintro r1 σ2 ⟨rfl, hM2, c2⟩
  refine G_if rfl (fun q3 => ?_) (fun q3 => absurd rfl q3)
  exact next σ2 _ (hG.nx m1 hC1 c2 hM2 (hS))
set_option maxRecDepth 100000 in
theorem lw_judge {L i : Nat} {xs : Nat → Int32} {σ : Hp} {S : SS} {Q : Option PV → Hp → Prop} (hG : Gd L xs σ S) (hi : i + 5 ≤ L) (hL : L ≤ 2560) (next : ∀ σ' S', Gd L xs σ' S' → RR 159 1231 [some (.inr (.inr (32, 0))), some rT, some rMo, some (.inl (nI i))] [] σ' Q) : RR 159 752 [some (.inr (.inr (32, 0))), some rT, some rMo, some (.inl (nI i))] [] σ Q := by
  obtain ⟨hC, hM, hS, hF, hl, hx⟩ := id hG
  refine G_ald rfl (i + 1) (ax1 i) (by rw [hl]; omega) (by rw [hl]; omega) ?_
  rw [hx (i + 1)]
  refine G_ald rfl (i + 2) (ax2 i) (by rw [hl]; omega) (by rw [hl]; omega) ?_
  rw [hx (i + 2)]
  refine G_ald rfl (i + 3) (ax3 i) (by rw [hl]; omega) (by rw [hl]; omega) ?_
  rw [hx (i + 3)]
  refine G_call rfl (c_judge hS _ _ σ hC) ?_
  rintro r1 σ1 ⟨rfl, hC1, m1⟩
  have hx1 := hG.x1 m1
  have hl1 := hG.l1 m1
  refine G_ald rfl (i + 1) (ax1 i) (by rw [hl1]; omega) (by rw [hl1]; omega) ?_
  rw [hx1 (i + 1)]
  refine G_ald rfl (i + 2) (ax2 i) (by rw [hl1]; omega) (by rw [hl1]; omega) ?_
  rw [hx1 (i + 2)]
  refine G_ald rfl (i + 3) (ax3 i) (by rw [hl1]; omega) (by rw [hl1]; omega) ?_
  rw [hx1 (i + 3)]
  refine G_call rfl (m_judge hS _ _ σ1 (hM.of m1)) ?_
  rintro r1 σ2 ⟨rfl, hM2, c2⟩
  refine G_if rfl (fun q3 => ?_) (fun q3 => absurd rfl q3)
  exact next σ2 _ (hG.nx m1 hC1 c2 hM2 (hS))
set_option maxRecDepth 100000 in
theorem lw_share {L i : Nat} {xs : Nat → Int32} {σ : Hp} {S : SS} {Q : Option PV → Hp → Prop} (hG : Gd L xs σ S) (hi : i + 5 ≤ L) (hL : L ≤ 2560) (next : ∀ σ' S', Gd L xs σ' S' → RR 159 1231 [some (.inr (.inr (32, 0))), some rT, some rMo, some (.inl (nI i))] [] σ' Q) : RR 159 815 [some (.inr (.inr (32, 0))), some rT, some rMo, some (.inl (nI i))] [] σ Q := by
  obtain ⟨hC, hM, hS, hF, hl, hx⟩ := id hG
  refine G_ald rfl (i + 1) (ax1 i) (by rw [hl]; omega) (by rw [hl]; omega) ?_
  rw [hx (i + 1)]
  refine G_ald rfl (i + 2) (ax2 i) (by rw [hl]; omega) (by rw [hl]; omega) ?_
  rw [hx (i + 2)]
  refine G_ald rfl (i + 3) (ax3 i) (by rw [hl]; omega) (by rw [hl]; omega) ?_
  rw [hx (i + 3)]
  refine G_if rfl (fun q => ?_) (fun q => ?_)
  · refine G_call rfl (c_share hS _ _ _ σ hC hF) ?_
    rintro r1 σ1 ⟨rfl, hC1, m1⟩
    have hx1 := hG.x1 m1
    have hl1 := hG.l1 m1
    refine G_ald rfl (i + 1) (ax1 i) (by rw [hl1]; omega) (by rw [hl1]; omega) ?_
    rw [hx1 (i + 1)]
    refine G_ald rfl (i + 2) (ax2 i) (by rw [hl1]; omega) (by rw [hl1]; omega) ?_
    rw [hx1 (i + 2)]
    refine G_ald rfl (i + 3) (ax3 i) (by rw [hl1]; omega) (by rw [hl1]; omega) ?_
    rw [hx1 (i + 3)]
    refine G_if rfl (fun q2 => ?_) (fun q2 => absurd q q2)
    refine G_call rfl (m_share hS _ _ _ σ1 (hM.of m1)) ?_
    rintro r1 σ2 ⟨rfl, hM2, c2⟩
    refine G_if rfl (fun q3 => ?_) (fun q3 => absurd rfl q3)
    exact next σ2 _ (hG.nx m1 hC1 c2 hM2 (hS))
  · refine G_call rfl (c_share hS _ _ _ σ hC hF) ?_
    rintro r1 σ1 ⟨rfl, hC1, m1⟩
    have hx1 := hG.x1 m1
    have hl1 := hG.l1 m1
    refine G_ald rfl (i + 1) (ax1 i) (by rw [hl1]; omega) (by rw [hl1]; omega) ?_
    rw [hx1 (i + 1)]
    refine G_ald rfl (i + 2) (ax2 i) (by rw [hl1]; omega) (by rw [hl1]; omega) ?_
    rw [hx1 (i + 2)]
    refine G_ald rfl (i + 3) (ax3 i) (by rw [hl1]; omega) (by rw [hl1]; omega) ?_
    rw [hx1 (i + 3)]
    refine G_if rfl (fun q2 => absurd q2 q) (fun q2 => ?_)
    refine G_call rfl (m_share hS _ _ _ σ1 (hM.of m1)) ?_
    rintro r1 σ2 ⟨rfl, hM2, c2⟩
    refine G_if rfl (fun q3 => ?_) (fun q3 => absurd rfl q3)
    exact next σ2 _ (hG.nx m1 hC1 c2 hM2 (hS))
set_option maxRecDepth 100000 in
theorem lw_seek {L i : Nat} {xs : Nat → Int32} {σ : Hp} {S : SS} {Q : Option PV → Hp → Prop} (hG : Gd L xs σ S) (hi : i + 5 ≤ L) (hL : L ≤ 2560) (next : ∀ σ' S', Gd L xs σ' S' → RR 159 1231 [some (.inr (.inr (32, 0))), some rT, some rMo, some (.inl (nI i))] [] σ' Q) : RR 159 874 [some (.inr (.inr (32, 0))), some rT, some rMo, some (.inl (nI i))] [] σ Q := by
  obtain ⟨hC, hM, hS, hF, hl, hx⟩ := id hG
  refine G_ald rfl (i + 1) (ax1 i) (by rw [hl]; omega) (by rw [hl]; omega) ?_
  rw [hx (i + 1)]
  refine G_ald rfl (i + 2) (ax2 i) (by rw [hl]; omega) (by rw [hl]; omega) ?_
  rw [hx (i + 2)]
  refine G_ald rfl (i + 3) (ax3 i) (by rw [hl]; omega) (by rw [hl]; omega) ?_
  rw [hx (i + 3)]
  refine G_call rfl (c_seek hS _ _ _ σ hC) ?_
  rintro r1 σ1 ⟨rfl, hC1, m1⟩
  have hx1 := hG.x1 m1
  have hl1 := hG.l1 m1
  refine G_ald rfl (i + 1) (ax1 i) (by rw [hl1]; omega) (by rw [hl1]; omega) ?_
  rw [hx1 (i + 1)]
  refine G_ald rfl (i + 2) (ax2 i) (by rw [hl1]; omega) (by rw [hl1]; omega) ?_
  rw [hx1 (i + 2)]
  refine G_ald rfl (i + 3) (ax3 i) (by rw [hl1]; omega) (by rw [hl1]; omega) ?_
  rw [hx1 (i + 3)]
  refine G_call rfl (m_seek hS _ _ _ σ1 (hM.of m1)) ?_
  rintro r1 σ2 ⟨rfl, hM2, c2⟩
  refine G_if rfl (fun q3 => ?_) (fun q3 => absurd rfl q3)
  exact next σ2 _ (hG.nx m1 hC1 c2 hM2 (hS.seek _ _ _))
set_option maxRecDepth 100000 in
theorem lw_unseek {L i : Nat} {xs : Nat → Int32} {σ : Hp} {S : SS} {Q : Option PV → Hp → Prop} (hG : Gd L xs σ S) (hi : i + 5 ≤ L) (hL : L ≤ 2560) (next : ∀ σ' S', Gd L xs σ' S' → RR 159 1231 [some (.inr (.inr (32, 0))), some rT, some rMo, some (.inl (nI i))] [] σ' Q) : RR 159 917 [some (.inr (.inr (32, 0))), some rT, some rMo, some (.inl (nI i))] [] σ Q := by
  obtain ⟨hC, hM, hS, hF, hl, hx⟩ := id hG
  refine G_call rfl (c_unseek S σ hC) ?_
  rintro r1 σ1 ⟨rfl, hC1, m1⟩
  have hx1 := hG.x1 m1
  have hl1 := hG.l1 m1
  refine G_call rfl (m_unseek S σ1 (hM.of m1)) ?_
  rintro r1 σ2 ⟨rfl, hM2, c2⟩
  refine G_if rfl (fun q3 => ?_) (fun q3 => absurd rfl q3)
  exact next σ2 _ (hG.nx m1 hC1 c2 hM2 (hS.unseek))
set_option maxRecDepth 100000 in
theorem lw_keys {L i : Nat} {xs : Nat → Int32} {σ : Hp} {S : SS} {Q : Option PV → Hp → Prop} (hG : Gd L xs σ S) (hi : i + 5 ≤ L) (hL : L ≤ 2560) (next : ∀ σ' S', Gd L xs σ' S' → RR 159 1231 [some (.inr (.inr (32, 0))), some rT, some rMo, some (.inl (nI i))] [] σ' Q) : RR 159 930 [some (.inr (.inr (32, 0))), some rT, some rMo, some (.inl (nI i))] [] σ Q := by
  obtain ⟨hC, hM, hS, hF, hl, hx⟩ := id hG
  refine G_ald rfl (i + 1) (ax1 i) (by rw [hl]; omega) (by rw [hl]; omega) ?_
  rw [hx (i + 1)]
  refine G_call rfl (c_keys hS _ σ hC) ?_
  rintro r1 σ1 ⟨rfl, hC1, m1⟩
  have hx1 := hG.x1 m1
  have hl1 := hG.l1 m1
  refine G_ald rfl (i + 1) (ax1 i) (by rw [hl1]; omega) (by rw [hl1]; omega) ?_
  rw [hx1 (i + 1)]
  refine G_call rfl (m_keys hS _ σ1 (hM.of m1)) ?_
  rintro r1 σ2 ⟨rfl, hM2, c2⟩
  refine G_if rfl (fun q3 => ?_) (fun q3 => absurd rfl q3)
  exact next σ2 _ (hG.nx m1 hC1 c2 hM2 (hS))
set_option maxRecDepth 100000 in
theorem lw_rests {L i : Nat} {xs : Nat → Int32} {σ : Hp} {S : SS} {Q : Option PV → Hp → Prop} (hG : Gd L xs σ S) (hi : i + 5 ≤ L) (hL : L ≤ 2560) (next : ∀ σ' S', Gd L xs σ' S' → RR 159 1231 [some (.inr (.inr (32, 0))), some rT, some rMo, some (.inl (nI i))] [] σ' Q) : RR 159 953 [some (.inr (.inr (32, 0))), some rT, some rMo, some (.inl (nI i))] [] σ Q := by
  obtain ⟨hC, hM, hS, hF, hl, hx⟩ := id hG
  refine G_ald rfl (i + 1) (ax1 i) (by rw [hl]; omega) (by rw [hl]; omega) ?_
  rw [hx (i + 1)]
  refine G_ald rfl (i + 2) (ax2 i) (by rw [hl]; omega) (by rw [hl]; omega) ?_
  rw [hx (i + 2)]
  refine G_ald rfl (i + 3) (ax3 i) (by rw [hl]; omega) (by rw [hl]; omega) ?_
  rw [hx (i + 3)]
  refine G_ald rfl (i + 4) (ax4 i) (by rw [hl]; omega) (by rw [hl]; omega) ?_
  rw [hx (i + 4)]
  refine G_call rfl (c_rests hS _ _ _ _ σ hC) ?_
  rintro r1 σ1 ⟨rfl, hC1, m1⟩
  have hx1 := hG.x1 m1
  have hl1 := hG.l1 m1
  refine G_ald rfl (i + 1) (ax1 i) (by rw [hl1]; omega) (by rw [hl1]; omega) ?_
  rw [hx1 (i + 1)]
  refine G_ald rfl (i + 2) (ax2 i) (by rw [hl1]; omega) (by rw [hl1]; omega) ?_
  rw [hx1 (i + 2)]
  refine G_ald rfl (i + 3) (ax3 i) (by rw [hl1]; omega) (by rw [hl1]; omega) ?_
  rw [hx1 (i + 3)]
  refine G_ald rfl (i + 4) (ax4 i) (by rw [hl1]; omega) (by rw [hl1]; omega) ?_
  rw [hx1 (i + 4)]
  refine G_call rfl (m_rests hS _ _ _ _ σ1 (hM.of m1)) ?_
  rintro r1 σ2 ⟨rfl, hM2, c2⟩
  refine G_if rfl (fun q3 => ?_) (fun q3 => absurd rfl q3)
  exact next σ2 _ (hG.nx m1 hC1 c2 hM2 (hS))
set_option maxRecDepth 100000 in
theorem lw_lost {L i : Nat} {xs : Nat → Int32} {σ : Hp} {S : SS} {Q : Option PV → Hp → Prop} (hG : Gd L xs σ S) (hi : i + 5 ≤ L) (hL : L ≤ 2560) (next : ∀ σ' S', Gd L xs σ' S' → RR 159 1231 [some (.inr (.inr (32, 0))), some rT, some rMo, some (.inl (nI i))] [] σ' Q) : RR 159 1006 [some (.inr (.inr (32, 0))), some rT, some rMo, some (.inl (nI i))] [] σ Q := by
  obtain ⟨hC, hM, hS, hF, hl, hx⟩ := id hG
  refine G_ald rfl (i + 1) (ax1 i) (by rw [hl]; omega) (by rw [hl]; omega) ?_
  rw [hx (i + 1)]
  refine G_ald rfl (i + 2) (ax2 i) (by rw [hl]; omega) (by rw [hl]; omega) ?_
  rw [hx (i + 2)]
  refine G_ald rfl (i + 3) (ax3 i) (by rw [hl]; omega) (by rw [hl]; omega) ?_
  rw [hx (i + 3)]
  refine G_ald rfl (i + 4) (ax4 i) (by rw [hl]; omega) (by rw [hl]; omega) ?_
  rw [hx (i + 4)]
  refine G_if rfl (fun q => ?_) (fun q => ?_)
  · refine G_call rfl (c_lost hS _ _ _ _ σ hC) ?_
    rintro r1 σ1 ⟨rfl, hC1, m1⟩
    have hx1 := hG.x1 m1
    have hl1 := hG.l1 m1
    refine G_ald rfl (i + 1) (ax1 i) (by rw [hl1]; omega) (by rw [hl1]; omega) ?_
    rw [hx1 (i + 1)]
    refine G_ald rfl (i + 2) (ax2 i) (by rw [hl1]; omega) (by rw [hl1]; omega) ?_
    rw [hx1 (i + 2)]
    refine G_ald rfl (i + 3) (ax3 i) (by rw [hl1]; omega) (by rw [hl1]; omega) ?_
    rw [hx1 (i + 3)]
    refine G_ald rfl (i + 4) (ax4 i) (by rw [hl1]; omega) (by rw [hl1]; omega) ?_
    rw [hx1 (i + 4)]
    refine G_if rfl (fun q2 => ?_) (fun q2 => absurd q q2)
    refine G_call rfl (m_lost hS _ _ _ _ σ1 (hM.of m1)) ?_
    rintro r1 σ2 ⟨rfl, hM2, c2⟩
    refine G_if rfl (fun q3 => ?_) (fun q3 => absurd rfl q3)
    exact next σ2 _ (hG.nx m1 hC1 c2 hM2 (hS))
  · refine G_call rfl (c_lost hS _ _ _ _ σ hC) ?_
    rintro r1 σ1 ⟨rfl, hC1, m1⟩
    have hx1 := hG.x1 m1
    have hl1 := hG.l1 m1
    refine G_ald rfl (i + 1) (ax1 i) (by rw [hl1]; omega) (by rw [hl1]; omega) ?_
    rw [hx1 (i + 1)]
    refine G_ald rfl (i + 2) (ax2 i) (by rw [hl1]; omega) (by rw [hl1]; omega) ?_
    rw [hx1 (i + 2)]
    refine G_ald rfl (i + 3) (ax3 i) (by rw [hl1]; omega) (by rw [hl1]; omega) ?_
    rw [hx1 (i + 3)]
    refine G_ald rfl (i + 4) (ax4 i) (by rw [hl1]; omega) (by rw [hl1]; omega) ?_
    rw [hx1 (i + 4)]
    refine G_if rfl (fun q2 => absurd q2 q) (fun q2 => ?_)
    refine G_call rfl (m_lost hS _ _ _ _ σ1 (hM.of m1)) ?_
    rintro r1 σ2 ⟨rfl, hM2, c2⟩
    refine G_if rfl (fun q3 => ?_) (fun q3 => absurd rfl q3)
    exact next σ2 _ (hG.nx m1 hC1 c2 hM2 (hS))
set_option maxRecDepth 100000 in
theorem lw_seed {L i : Nat} {xs : Nat → Int32} {σ : Hp} {S : SS} {Q : Option PV → Hp → Prop} (hG : Gd L xs σ S) (hi : i + 5 ≤ L) (hL : L ≤ 2560) (next : ∀ σ' S', Gd L xs σ' S' → RR 159 1231 [some (.inr (.inr (32, 0))), some rT, some rMo, some (.inl (nI i))] [] σ' Q) : RR 159 1075 [some (.inr (.inr (32, 0))), some rT, some rMo, some (.inl (nI i))] [] σ Q := by
  obtain ⟨hC, hM, hS, hF, hl, hx⟩ := id hG
  refine G_ald rfl (i + 1) (ax1 i) (by rw [hl]; omega) (by rw [hl]; omega) ?_
  rw [hx (i + 1)]
  refine G_ald rfl (i + 2) (ax2 i) (by rw [hl]; omega) (by rw [hl]; omega) ?_
  rw [hx (i + 2)]
  refine G_call rfl (c_seed S _ σ hC) ?_
  rintro r1 σ1 ⟨rfl, hC1, m1⟩
  have hx1 := hG.x1 m1
  have hl1 := hG.l1 m1
  refine G_ald rfl (i + 1) (ax1 i) (by rw [hl1]; omega) (by rw [hl1]; omega) ?_
  rw [hx1 (i + 1)]
  refine G_ald rfl (i + 2) (ax2 i) (by rw [hl1]; omega) (by rw [hl1]; omega) ?_
  rw [hx1 (i + 2)]
  refine G_call rfl (m_seed S _ σ1 (hM.of m1)) ?_
  rintro r1 σ2 ⟨rfl, hM2, c2⟩
  refine G_if rfl (fun q => ?_) (fun q => absurd (cmp_self _) q)
  exact next σ2 _ (hG.nx m1 hC1 c2 hM2 (hS.seed _))
set_option maxRecDepth 100000 in
theorem lw_rounds {L i : Nat} {xs : Nat → Int32} {σ : Hp} {S : SS} {Q : Option PV → Hp → Prop} (hG : Gd L xs σ S) (hi : i + 5 ≤ L) (hL : L ≤ 2560) (next : ∀ σ' S', Gd L xs σ' S' → RR 159 1231 [some (.inr (.inr (32, 0))), some rT, some rMo, some (.inl (nI i))] [] σ' Q) : RR 159 1129 [some (.inr (.inr (32, 0))), some rT, some rMo, some (.inl (nI i))] [] σ Q := by
  obtain ⟨hC, hM, hS, hF, hl, hx⟩ := id hG
  refine G_ald rfl (i + 1) (ax1 i) (by rw [hl]; omega) (by rw [hl]; omega) ?_
  rw [hx (i + 1)]
  refine G_ald rfl (i + 2) (ax2 i) (by rw [hl]; omega) (by rw [hl]; omega) ?_
  rw [hx (i + 2)]
  refine G_call rfl (c_rounds hS _ _ σ hC) ?_
  rintro r1 σ1 ⟨rfl, hC1, m1⟩
  have hx1 := hG.x1 m1
  have hl1 := hG.l1 m1
  refine G_ald rfl (i + 1) (ax1 i) (by rw [hl1]; omega) (by rw [hl1]; omega) ?_
  rw [hx1 (i + 1)]
  refine G_ald rfl (i + 2) (ax2 i) (by rw [hl1]; omega) (by rw [hl1]; omega) ?_
  rw [hx1 (i + 2)]
  refine G_call rfl (m_rounds hS _ _ σ1 (hM.of m1)) ?_
  rintro r1 σ2 ⟨rfl, hM2, c2⟩
  refine G_if rfl (fun q3 => ?_) (fun q3 => absurd rfl q3)
  exact next σ2 _ (hG.nx m1 hC1 c2 hM2 (hS.rounds _ _))
set_option maxRecDepth 100000 in
theorem lw_keep {L i : Nat} {xs : Nat → Int32} {σ : Hp} {S : SS} {Q : Option PV → Hp → Prop} (hG : Gd L xs σ S) (hi : i + 5 ≤ L) (hL : L ≤ 2560) (next : ∀ σ' S', Gd L xs σ' S' → RR 159 1231 [some (.inr (.inr (32, 0))), some rT, some rMo, some (.inl (nI i))] [] σ' Q) : RR 159 1162 [some (.inr (.inr (32, 0))), some rT, some rMo, some (.inl (nI i))] [] σ Q := by
  obtain ⟨hC, hM, hS, hF, hl, hx⟩ := id hG
  refine G_ald rfl (i + 1) (ax1 i) (by rw [hl]; omega) (by rw [hl]; omega) ?_
  rw [hx (i + 1)]
  refine G_call rfl (c_keep hS _ σ hC) ?_
  rintro r1 σ1 ⟨rfl, hC1, m1⟩
  have hx1 := hG.x1 m1
  have hl1 := hG.l1 m1
  refine G_ald rfl (i + 1) (ax1 i) (by rw [hl1]; omega) (by rw [hl1]; omega) ?_
  rw [hx1 (i + 1)]
  refine G_call rfl (m_keep hS _ σ1 (hM.of m1)) ?_
  rintro r1 σ2 ⟨rfl, hM2, c2⟩
  refine G_if rfl (fun q3 => ?_) (fun q3 => absurd rfl q3)
  exact next σ2 _ (hG.nx m1 hC1 c2 hM2 (hS.keep _))
set_option maxRecDepth 100000 in
theorem lw_again {L i : Nat} {xs : Nat → Int32} {σ : Hp} {S : SS} {Q : Option PV → Hp → Prop} (hG : Gd L xs σ S) (hi : i + 5 ≤ L) (hL : L ≤ 2560) (next : ∀ σ' S', Gd L xs σ' S' → RR 159 1231 [some (.inr (.inr (32, 0))), some rT, some rMo, some (.inl (nI i))] [] σ' Q) : RR 159 1185 [some (.inr (.inr (32, 0))), some rT, some rMo, some (.inl (nI i))] [] σ Q := by
  obtain ⟨hC, hM, hS, hF, hl, hx⟩ := id hG
  refine G_ald rfl (i + 1) (ax1 i) (by rw [hl]; omega) (by rw [hl]; omega) ?_
  rw [hx (i + 1)]
  refine G_call rfl (c_again hS _ σ hC) ?_
  rintro r1 σ1 ⟨rfl, hC1, m1⟩
  have hx1 := hG.x1 m1
  have hl1 := hG.l1 m1
  refine G_ald rfl (i + 1) (ax1 i) (by rw [hl1]; omega) (by rw [hl1]; omega) ?_
  rw [hx1 (i + 1)]
  refine G_call rfl (m_again hS _ σ1 (hM.of m1)) ?_
  rintro r1 σ2 ⟨rfl, hM2, c2⟩
  refine G_if rfl (fun q3 => ?_) (fun q3 => absurd rfl q3)
  exact next σ2 _ (hG.nx m1 hC1 c2 hM2 (hS.again _))
set_option maxRecDepth 100000 in
theorem lw_count {L i : Nat} {xs : Nat → Int32} {σ : Hp} {S : SS} {Q : Option PV → Hp → Prop} (hG : Gd L xs σ S) (hi : i + 5 ≤ L) (hL : L ≤ 2560) (next : ∀ σ' S', Gd L xs σ' S' → RR 159 1231 [some (.inr (.inr (32, 0))), some rT, some rMo, some (.inl (nI i))] [] σ' Q) : RR 159 1208 [some (.inr (.inr (32, 0))), some rT, some rMo, some (.inl (nI i))] [] σ Q := by
  obtain ⟨hC, hM, hS, hF, hl, hx⟩ := id hG
  refine G_ald rfl (i + 1) (ax1 i) (by rw [hl]; omega) (by rw [hl]; omega) ?_
  rw [hx (i + 1)]
  refine G_call rfl (c_count S _ σ hC) ?_
  rintro r1 σ1 ⟨rfl, hC1, m1⟩
  have hx1 := hG.x1 m1
  have hl1 := hG.l1 m1
  refine G_ald rfl (i + 1) (ax1 i) (by rw [hl1]; omega) (by rw [hl1]; omega) ?_
  rw [hx1 (i + 1)]
  refine G_call rfl (m_count S _ σ1 (hM.of m1)) ?_
  rintro r1 σ2 ⟨rfl, hM2, c2⟩
  refine G_if rfl (fun q3 => ?_) (fun q3 => absurd rfl q3)
  exact next σ2 _ (hG.nx m1 hC1 c2 hM2 (hS))
theorem sw32 (x : Int32) : ∃ k, k < 32 ∧ x &&& 31 = nI k := by
  have h : (x &&& 31).toBitVec.toNat < 32 := by
    rw [Int32.toBitVec_and, BitVec.toNat_and]
    exact Nat.lt_of_le_of_lt Nat.and_le_right (by decide)
  refine ⟨(x &&& 31).toBitVec.toNat, h, ?_⟩
  apply Int32.toBitVec_inj.mp
  show (x &&& 31).toBitVec = BitVec.ofNat 32 _
  rw [BitVec.ofNat_toNat, BitVec.setWidth_eq]
set_option maxRecDepth 100000 in
theorem lw_case {L i : Nat} {xs : Nat → Int32} {σ : Hp} {S : SS} {Q : Option PV → Hp → Prop} (hG : Gd L xs σ S) (hi : i + 5 ≤ L) (hL : L ≤ 2560) (next : ∀ σ' S', Gd L xs σ' S' → RR 159 1231 [some (.inr (.inr (32, 0))), some rT, some rMo, some (.inl (nI i))] [] σ' Q) : RR 159 26 [some (.inr (.inr (32, 0))), some rT, some rMo, some (.inl (nI i))] [] σ Q := by
  have hl := hG.2.2.2.2.1
  refine G_ald rfl i rfl (by rw [hl]; omega) (by rw [hl]; omega) ?_
  obtain ⟨k, hk, e⟩ := sw32 (σ.1 32 0 i)
  match k, hk with
  | 0, _ => exact G_swk 0 rfl e rfl (by decide) (by decide) 168 rfl (lw_write hG hi hL next)
  | 1, _ => exact G_swk 1 rfl e rfl (by decide) (by decide) 191 rfl (lw_wipe hG hi hL next)
  | 2, _ => exact G_swk 2 rfl e rfl (by decide) (by decide) 204 rfl (lw_fault hG hi hL next)
  | 3, _ => exact G_swk 3 rfl e rfl (by decide) (by decide) 217 rfl (lw_shape hG hi hL next)
  | 4, _ => exact G_swk 4 rfl e rfl (by decide) (by decide) 240 rfl (lw_put hG hi hL next)
  | 5, _ => exact G_swk 5 rfl e rfl (by decide) (by decide) 283 rfl (lw_remove hG hi hL next)
  | 6, _ => exact G_swk 6 rfl e rfl (by decide) (by decide) 316 rfl (lw_cut hG hi hL next)
  | 7, _ => exact G_swk 7 rfl e rfl (by decide) (by decide) 359 rfl (lw_undo hG hi hL next)
  | 8, _ => exact G_swk 8 rfl e rfl (by decide) (by decide) 372 rfl (lw_about hG hi hL next)
  | 9, _ => exact G_swk 9 rfl e rfl (by decide) (by decide) 405 rfl (lw_item hG hi hL next)
  | 10, _ => exact G_swk 10 rfl e rfl (by decide) (by decide) 448 rfl (lw_get hG hi hL next)
  | 11, _ => exact G_swk 11 rfl e rfl (by decide) (by decide) 481 rfl (lw_span hG hi hL next)
  | 12, _ => exact G_swk 12 rfl e rfl (by decide) (by decide) 524 rfl (lw_rank hG hi hL next)
  | 13, _ => exact G_swk 13 rfl e rfl (by decide) (by decide) 557 rfl (lw_near hG hi hL next)
  | 14, _ => exact G_swk 14 rfl e rfl (by decide) (by decide) 600 rfl (lw_looks hG hi hL next)
  | 15, _ => exact G_swk 15 rfl e rfl (by decide) (by decide) 633 rfl (lw_sum hG hi hL next)
  | 16, _ => exact G_swk 16 rfl e rfl (by decide) (by decide) 676 rfl (lw_would hG hi hL next)
  | 17, _ => exact G_swk 17 rfl e rfl (by decide) (by decide) 719 rfl (lw_best hG hi hL next)
  | 18, _ => exact G_swk 18 rfl e rfl (by decide) (by decide) 752 rfl (lw_judge hG hi hL next)
  | 19, _ => exact G_swk 19 rfl e rfl (by decide) (by decide) 815 rfl (lw_share hG hi hL next)
  | 20, _ => exact G_swk 20 rfl e rfl (by decide) (by decide) 874 rfl (lw_seek hG hi hL next)
  | 21, _ => exact G_swk 21 rfl e rfl (by decide) (by decide) 917 rfl (lw_unseek hG hi hL next)
  | 22, _ => exact G_swk 22 rfl e rfl (by decide) (by decide) 930 rfl (lw_keys hG hi hL next)
  | 23, _ => exact G_swk 23 rfl e rfl (by decide) (by decide) 953 rfl (lw_rests hG hi hL next)
  | 24, _ => exact G_swk 24 rfl e rfl (by decide) (by decide) 1006 rfl (lw_lost hG hi hL next)
  | 25, _ => exact G_swk 25 rfl e rfl (by decide) (by decide) 1075 rfl (lw_seed hG hi hL next)
  | 26, _ => exact G_swk 26 rfl e rfl (by decide) (by decide) 1129 rfl (lw_rounds hG hi hL next)
  | 27, _ => exact G_swk 27 rfl e rfl (by decide) (by decide) 1162 rfl (lw_keep hG hi hL next)
  | 28, _ => exact G_swk 28 rfl e rfl (by decide) (by decide) 1185 rfl (lw_again hG hi hL next)
  | 29, _ => exact G_swk 29 rfl e rfl (by decide) (by decide) 1208 rfl (lw_count hG hi hL next)
  | k + 30, hk => exact G_swd rfl (Or.inr (by rw [e, nI_toInt (by omega)]; omega)) (next σ S hG)
theorem lw_end {L i : Nat} (hL : L ≤ 2560) (hi : i ≤ 2565) : nI L - 5 < nI i ↔ L < i + 5 := by
  rw [Int32.lt_iff_toInt_lt, show (5 : Int32) = nI 5 from rfl, pk_sub_toInt (by omega) (by omega), nI_toInt (by omega)]
  omega
set_option maxRecDepth 100000 in
theorem lw_loop {L : Nat} {xs : Nat → Int32} (hL : L ≤ 2560) : ∀ (n i : Nat) (σ : Hp) (S : SS), Gd L xs σ S → i ≤ 2565 → L < i + 5 * n + 5 → RR 159 18 [some (.inr (.inr (32, 0))), some rT, some rMo, some (.inl (nI i))] [] σ (fun r _ => r = some (.inl 1)) := by
  intro n
  induction n with
  | zero =>
    intro i σ S hG hi hn
    have hl := hG.2.2.2.2.1
    refine G_if rfl (fun q => ?_) (fun q => ?_)
    · exact G_retZ rfl (Or.inr rfl) rfl
    · rw [hl] at q
      exact absurd ((lw_end hL hi).mpr (by omega)) q
  | succ n ih =>
    intro i σ S hG hi hn
    have hl := hG.2.2.2.2.1
    refine G_if rfl (fun q => ?_) (fun q => ?_)
    · exact G_retZ rfl (Or.inr rfl) rfl
    · rw [hl] at q
      have q : ¬ L < i + 5 := fun e => q ((lw_end hL hi).mpr e)
      refine lw_case hG (by omega) hL (fun σ' S' hG' => ?_)
      refine G_to [18] rfl ?_
      rw [ax5]
      exact ih (i + 5) σ' S' hG' (by omega) (by omega)
set_option maxRecDepth 100000 in
theorem lw_all {L : Nat} {xs : Nat → Int32} (hL : L ≤ 2560) {σ : Hp} {S : SS} (hG : Gd L xs σ S) : RR 159 16 [some (.inr (.inr (32, 0))), some rT, some rMo, none] [] σ (fun r _ => r = some (.inl 1)) := by
  refine G_to [18] rfl ?_
  exact lw_loop hL 513 0 σ S hG (by omega) (by omega)
