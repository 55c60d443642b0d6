/-! PURE: the drafts side by side -/
/-- one name on both sides -/
def g_nm (a r : Int) : Prop := ∃ w, g_ls w ∧ w ≠ [] ∧ w.length ≤ 8 ∧ (∀ j, j < 9 → w ≠ g_lw j) ∧ a = g_cd 256 0 w ∧ r = g_cd 32 96 w
def g_hb (k v : Int) : Prop := 0 ≤ v ∧ v ≤ (if k = 2 then 9 else if k = 4 then 16 else if k = 6 then 999 else if k = 7 then 4 else 99) ∧ (k = 2 ∨ k = 7 → 1 ≤ v)
def g_DD (C R : gj_M) : Prop :=
  C 3 0 = R 102 0
  ∧ C 3 1 = R 102 1
  ∧ (0 ≤ C 3 0 ∧ C 3 0 ≤ 4)
  ∧ (0 ≤ C 3 1 ∧ C 3 1 ≤ 4)
  ∧ (∀ i, 0 ≤ i → i < 8 → g_pe C 3 i → g_nm (C 11 i) (R 103 i))
  ∧ (∀ i, 0 ≤ i → i < 8 → g_pe C 3 i → C 4 i = R 84 i ∧ 0 ≤ C 4 i ∧ C 4 i ≤ 99)
  ∧ (∀ i, 0 ≤ i → i < 32 → C 12 i = R 104 i)
  ∧ (∀ i, 0 ≤ i → i < 32 → C 5 i = R 87 i ∧ 0 ≤ C 5 i ∧ C 5 i ≤ 16)
  ∧ (∀ i, 0 ≤ i → i < 32 → C 6 i = R 90 i ∧ 0 ≤ C 6 i ∧ C 6 i ≤ 16)
  ∧ (∀ i, 0 ≤ i → i < 32 → C 7 i = R 93 i ∧ 0 ≤ C 7 i ∧ C 7 i ≤ 16)
  ∧ (∀ i, 0 ≤ i → i < 16 → C 13 i = R 105 i)
  ∧ (∀ i, 0 ≤ i → i < 16 → C 8 i = R 96 i ∧ 0 ≤ C 8 i ∧ C 8 i ≤ 16)
  ∧ (∀ k, 0 ≤ k → k < 8 → C 3 (k + 2) = R 99 k ∧ g_hb k (R 99 k))
  ∧ (0 ≤ C 10 5 ∧ C 10 5 < 32 ∧ ∀ k : Nat, k < 5 → (gj_and (C 10 5) (2 ^ k) = 0 ↔ R 106 (4 + (k : Int)) = 0))
theorem g_DD.n0 {C R : gj_M} (h : g_DD C R) : C 3 0 = R 102 0 := h.1
theorem g_DD.n1 {C R : gj_M} (h : g_DD C R) : C 3 1 = R 102 1 := h.2.1
theorem g_DD.b0 {C R : gj_M} (h : g_DD C R) : 0 ≤ C 3 0 ∧ C 3 0 ≤ 4 := h.2.2.1
theorem g_DD.b1 {C R : gj_M} (h : g_DD C R) : 0 ≤ C 3 1 ∧ C 3 1 ≤ 4 := h.2.2.2.1
theorem g_DD.nm {C R : gj_M} (h : g_DD C R) : (∀ i, 0 ≤ i → i < 8 → g_pe C 3 i → g_nm (C 11 i) (R 103 i)) := h.2.2.2.2.1
theorem g_DD.pr {C R : gj_M} (h : g_DD C R) : (∀ i, 0 ≤ i → i < 8 → g_pe C 3 i → C 4 i = R 84 i ∧ 0 ≤ C 4 i ∧ C 4 i ≤ 99) := h.2.2.2.2.2.1
theorem g_DD.th {C R : gj_M} (h : g_DD C R) : (∀ i, 0 ≤ i → i < 32 → C 12 i = R 104 i) := h.2.2.2.2.2.2.1
theorem g_DD.v5 {C R : gj_M} (h : g_DD C R) : (∀ i, 0 ≤ i → i < 32 → C 5 i = R 87 i ∧ 0 ≤ C 5 i ∧ C 5 i ≤ 16) := h.2.2.2.2.2.2.2.1
theorem g_DD.v6 {C R : gj_M} (h : g_DD C R) : (∀ i, 0 ≤ i → i < 32 → C 6 i = R 90 i ∧ 0 ≤ C 6 i ∧ C 6 i ≤ 16) := h.2.2.2.2.2.2.2.2.1
theorem g_DD.v7 {C R : gj_M} (h : g_DD C R) : (∀ i, 0 ≤ i → i < 32 → C 7 i = R 93 i ∧ 0 ≤ C 7 i ∧ C 7 i ≤ 16) := h.2.2.2.2.2.2.2.2.2.1
theorem g_DD.ft {C R : gj_M} (h : g_DD C R) : (∀ i, 0 ≤ i → i < 16 → C 13 i = R 105 i) := h.2.2.2.2.2.2.2.2.2.2.1
theorem g_DD.v8 {C R : gj_M} (h : g_DD C R) : (∀ i, 0 ≤ i → i < 16 → C 8 i = R 96 i ∧ 0 ≤ C 8 i ∧ C 8 i ≤ 16) := h.2.2.2.2.2.2.2.2.2.2.2.1
theorem g_DD.hd {C R : gj_M} (h : g_DD C R) : (∀ k, 0 ≤ k → k < 8 → C 3 (k + 2) = R 99 k ∧ g_hb k (R 99 k)) := h.2.2.2.2.2.2.2.2.2.2.2.2.1
theorem g_DD.bt {C R : gj_M} (h : g_DD C R) : 0 ≤ C 10 5 ∧ C 10 5 < 32 ∧ ∀ k : Nat, k < 5 → (gj_and (C 10 5) (2 ^ k) = 0 ↔ R 106 (4 + (k : Int)) = 0) := h.2.2.2.2.2.2.2.2.2.2.2.2.2
theorem g_pe_eq {C D : gj_M} {z i : Int} (h : D z = C z) : g_pe D z i ↔ g_pe C z i := by unfold g_pe; rw [h]
theorem g_DD_s {C R D U : gj_M} (h : g_DD C R) (hc : g_sC C D) (hr : g_sR R U) : g_DD D U := by
  unfold g_DD
  simp only [g_pe, hc.2, hc.1 3 (by decide), hc.1 4 (by decide), hc.1 5 (by decide), hc.1 6 (by decide), hc.1 7 (by decide), hc.1 8 (by decide), hc.1 11 (by decide), hc.1 12 (by decide), hc.1 13 (by decide),
    hr 84 (by decide), hr 87 (by decide), hr 90 (by decide), hr 93 (by decide), hr 96 (by decide), hr 99 (by decide), hr 102 (by decide), hr 103 (by decide), hr 104 (by decide), hr 105 (by decide), hr 106 (by decide)]
  exact h
theorem p_named {b : Int} {C R : gj_M} (h : g_TK b C R) (hd : g_DD C R) : ∃ a r s, F_X6_nameHere C = some a ∧ F_X12_nameHere R = some r ∧ F_X6_slotNamed a C = some s ∧ F_X12_found R = some s ∧ (s = -1 ∨ 0 ≤ s ∧ s < 8)
    ∧ ((a ≠ 0 ∧ g_nm a r ∧ r ≠ -1 ∧ F_X6_isLineWord C = some 0) ∨ (r = -1 ∧ (a = 0 ∨ ∃ x, F_X6_isLineWord C = some x ∧ x ≠ 0))) := by
  have h0 := h.cc.1
  have h1 := h.e0
  have h2 := h.e1
  have h3 := h.en
  have h4 := h.ps
  have h5 := h.tx
  obtain ⟨hw1, hw2⟩ := p_words h
  obtain ⟨s', hf, hF'⟩ := p_X12_found h.rt h.cr (by rw [← hd.n0]; exact hd.b0) (by rw [← hd.n1]; exact hd.b1)
  have pe : ∀ i, g_pe C 3 i ↔ g_pe R 102 i := fun i => by unfold g_pe; rw [hd.n0, hd.n1]
  have hF'' := hF' _ (p_X12_nameHere h.rt h.cr)
  have hrn := p_X12_nameHere h.rt h.cr
  have hcn := p_X6_nameHere h.ct h.cc
  rw [← h.kd] at hF'' hrn
  by_cases k1 : C 10 6 = 1
  · have k2 := g_kd1.mp (h.cc.2.2.1.symm.trans k1)
    have hl : ∀ i, C 10 7 ≤ i → i < C 10 8 → g_le (C 2) i = true := fun i a b => g_en_ltr k2.1 k2.2 a (by rw [← h.cc.2.2.2]; exact b)
    have et : g_tw (C 2) (C 10 7) (C 10 8) = g_tw (R 81) (R 79 3) (R 79 4) := by rw [g_tw_eq h.tt h0 h2 hl, h3, h4]
    by_cases k8 : C 10 8 - C 10 7 ≤ 8
    · have lt : C 10 7 < C 10 8 := by rw [h.cc.2.2.2]; exact g_en_gt k2.1
      rw [if_pos ⟨k1, k8⟩] at hcn
      rw [← h3, ← h4] at hF'' hrn hw1 hw2 et
      have ls := g_tw_ls hl
      have len : (g_tw (C 2) (C 10 7) (C 10 8)).length ≤ 8 := by rw [g_tw_len]; omega
      have ne : g_tw (C 2) (C 10 7) (C 10 8) ≠ [] := fun q => by
        have := congrArg List.length q
        rw [g_tw_len] at this
        change _ = 0 at this
        omega
      have a0 : g_cd 256 0 (g_tw (C 2) (C 10 7) (C 10 8)) ≠ 0 := fun q => ne (g_cd_a_inj (v := []) ls (fun c hc => absurd hc List.not_mem_nil) q)
      obtain ⟨s, hs, hS⟩ := p_X6_slotNamed (M := C) (x := g_cd 256 0 (g_tw (C 2) (C 10 7) (C 10 8)))
      obtain ⟨x, hx, hx2⟩ := p_X6_isLineWord h.ct h.cc k1
      rw [hw2] at hx2
      have hr8 : s = -1 ∨ 0 ≤ s ∧ s < 8 := by rcases hS with q | q <;> omega
      by_cases kw : g_wh (R 81) (C 10 7) (C 10 8) = -1
      · rw [if_pos ⟨k1, k8, kw⟩, ← et] at hF'' hrn
        have x0 := hx2.mpr kw
        rw [x0] at hx
        have nw := (g_wh_lw h1).mp (hw2.trans kw)
        have ss : s = s' := g_F_eq hS hF'' (fun i a b => by
          constructor
          · rintro ⟨p, q, r⟩
            obtain ⟨v, v1, v2, v3, v4, v5, v6⟩ := hd.nm i a b q
            rw [v5] at r
            have := g_cd_a_inj v1 ls r
            exact ⟨(pe i).mp q, by rw [v6, this]⟩
          · rintro ⟨q, r⟩
            obtain ⟨v, v1, v2, v3, v4, v5, v6⟩ := hd.nm i a b ((pe i).mpr q)
            rw [v6] at r
            have := g_cd_r_inj v1 ls r
            exact ⟨a0, (pe i).mpr q, by rw [v5, this]⟩)
        have r0 := g_cd_r8 ls len
        exact ⟨_, _, s, hcn, hrn, hs, by rw [ss]; exact hf, hr8, Or.inl ⟨a0, ⟨_, ls, ne, len, nw, rfl, rfl⟩, by omega, hx⟩⟩
      · rw [if_neg (fun q => kw q.2.2)] at hF'' hrn
        have ss : s = s' := g_F_eq hS hF'' (fun i a b => by
          constructor
          · rintro ⟨p, q, r⟩
            obtain ⟨v, v1, v2, v3, v4, v5, v6⟩ := hd.nm i a b q
            rw [v5] at r
            have e := g_cd_a_inj v1 ls r
            exact absurd ((g_wh_lw h1).mpr (fun j hj => by rw [← e]; exact v4 j hj)) (by rw [hw2]; exact kw)
          · rintro ⟨q, r⟩
            obtain ⟨v, v1, v2, v3, v4, v5, v6⟩ := hd.nm i a b ((pe i).mpr q)
            have := g_cd_r8 v1 v3
            omega)
        exact ⟨_, _, s, hcn, hrn, hs, by rw [ss]; exact hf, hr8, Or.inr ⟨rfl, Or.inr ⟨x, hx, fun q => kw (hx2.mp q)⟩⟩⟩
    · rw [if_neg (fun q => k8 q.2)] at hcn
      rw [if_neg (fun q => k8 (by omega))] at hF'' hrn
      obtain ⟨s, hs, hS⟩ := p_X6_slotNamed (M := C) (x := 0)
      have ss : s = s' := g_F_eq hS hF'' (fun i a b => by
        constructor
        · rintro ⟨p, q, r⟩
          exact absurd rfl p
        · rintro ⟨q, r⟩
          obtain ⟨v, v1, v2, v3, v4, v5, v6⟩ := hd.nm i a b ((pe i).mpr q)
          have := g_cd_r8 v1 v3
          omega)
      exact ⟨_, _, s, hcn, hrn, hs, by rw [ss]; exact hf, by rcases hS with q | q <;> omega, Or.inr ⟨rfl, Or.inl rfl⟩⟩
  · rw [if_neg (fun q => k1 q.1)] at hcn hF'' hrn
    obtain ⟨s, hs, hS⟩ := p_X6_slotNamed (M := C) (x := 0)
    have ss : s = s' := g_F_eq hS hF'' (fun i a b => by
      constructor
      · rintro ⟨p, q, r⟩
        exact absurd rfl p
      · rintro ⟨q, r⟩
        obtain ⟨v, v1, v2, v3, v4, v5, v6⟩ := hd.nm i a b ((pe i).mpr q)
        have := g_cd_r8 v1 v3
        omega)
    exact ⟨_, _, s, hcn, hrn, hs, by rw [ss]; exact hf, by rcases hS with q | q <;> omega, Or.inr ⟨rfl, Or.inl rfl⟩⟩
