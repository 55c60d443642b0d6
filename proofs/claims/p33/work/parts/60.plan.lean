/-! PURE: the plan of the village, side by side -/
def g_PL (C R : gj_M) : Prop :=
  C 14 0 = R 101 0
  ∧ C 14 1 = R 101 1
  ∧ (1 ≤ C 14 0 ∧ C 14 0 ≤ 4)
  ∧ (1 ≤ C 14 1 ∧ C 14 1 ≤ 4)
  ∧ (∀ k, 0 ≤ k → k < 8 → C 14 (k + 2) = R 98 k ∧ g_hb k (R 98 k))
  ∧ (∀ i, 0 ≤ i → i < 8 → g_pe C 14 i → C 15 i = R 83 i ∧ 0 ≤ C 15 i ∧ C 15 i ≤ 99)
  ∧ (∀ i, 0 ≤ i → i < 32 → C 16 i = R 86 i ∧ C 17 i = R 89 i ∧ C 18 i = R 92 i ∧ g_V (C 16 i) (C 17 i) (C 18 i))
  ∧ (∀ i, 0 ≤ i → i < 16 → C 19 i = R 95 i ∧ 0 ≤ C 19 i ∧ C 19 i ≤ 16)
  ∧ (∀ t, 0 ≤ t → t < 800 → C 20 t = g_st C t)
theorem g_PL.n0 {C R : gj_M} (h : g_PL C R) : C 14 0 = R 101 0 := h.1
theorem g_PL.n1 {C R : gj_M} (h : g_PL C R) : C 14 1 = R 101 1 := h.2.1
theorem g_PL.b0 {C R : gj_M} (h : g_PL C R) : (1 ≤ C 14 0 ∧ C 14 0 ≤ 4) := h.2.2.1
theorem g_PL.b1 {C R : gj_M} (h : g_PL C R) : (1 ≤ C 14 1 ∧ C 14 1 ≤ 4) := h.2.2.2.1
theorem g_PL.hd {C R : gj_M} (h : g_PL C R) : (∀ k, 0 ≤ k → k < 8 → C 14 (k + 2) = R 98 k ∧ g_hb k (R 98 k)) := h.2.2.2.2.1
theorem g_PL.al {C R : gj_M} (h : g_PL C R) : (∀ i, 0 ≤ i → i < 8 → g_pe C 14 i → C 15 i = R 83 i ∧ 0 ≤ C 15 i ∧ C 15 i ≤ 99) := h.2.2.2.2.2.1
theorem g_PL.vw {C R : gj_M} (h : g_PL C R) : (∀ i, 0 ≤ i → i < 32 → C 16 i = R 86 i ∧ C 17 i = R 89 i ∧ C 18 i = R 92 i ∧ g_V (C 16 i) (C 17 i) (C 18 i)) := h.2.2.2.2.2.2.1
theorem g_PL.ft {C R : gj_M} (h : g_PL C R) : (∀ i, 0 ≤ i → i < 16 → C 19 i = R 95 i ∧ 0 ≤ C 19 i ∧ C 19 i ≤ 16) := h.2.2.2.2.2.2.2.1
theorem g_PL.st {C R : gj_M} (h : g_PL C R) : (∀ t, 0 ≤ t → t < 800 → C 20 t = g_st C t) := h.2.2.2.2.2.2.2.2
theorem g_PL_s {C R D U : gj_M} (h : g_PL C R) (hc : ∀ z, 14 ≤ z → z ≤ 20 → D z = C z) (hr : ∀ z, z = 83 ∨ z = 86 ∨ z = 89 ∨ z = 92 ∨ z = 95 ∨ z = 98 ∨ z = 101 → U z = R z) : g_PL D U := by
  unfold g_PL g_st
  simp only [g_pe, hc 14 (by decide) (by decide), hc 15 (by decide) (by decide), hc 16 (by decide) (by decide), hc 17 (by decide) (by decide), hc 18 (by decide) (by decide), hc 19 (by decide) (by decide), hc 20 (by decide) (by decide),
    hr 83 (by decide), hr 86 (by decide), hr 89 (by decide), hr 92 (by decide), hr 95 (by decide), hr 98 (by decide), hr 101 (by decide)]
  exact h
def g_W0 (U : gj_M) : gj_M := f_copy (f_copy (f_copy (f_copy (f_copy (f_copy (f_copy U 84 8 83 8) 87 32 86 32) 90 32 89 32) 93 32 92 32) 96 16 95 16) 99 8 98 8) 102 2 101 2
theorem g_W0_z {U : gj_M} {z : Int} (h : z ≠ 83 ∧ z ≠ 86 ∧ z ≠ 89 ∧ z ≠ 92 ∧ z ≠ 95 ∧ z ≠ 98 ∧ z ≠ 101) : g_W0 U z = U z := by
  funext i
  unfold g_W0
  rw [f_copy_z h.2.2.2.2.2.2, f_copy_z h.2.2.2.2.2.1, f_copy_z h.2.2.2.2.1, f_copy_z h.2.2.2.1, f_copy_z h.2.2.1, f_copy_z h.2.1, f_copy_z h.1]
theorem g_W0_r {U : gj_M} {i : Int} (a : 0 ≤ i) : (i < 8 → g_W0 U 83 i = U 84 i ∧ g_W0 U 98 i = U 99 i) ∧ (i < 32 → g_W0 U 86 i = U 87 i ∧ g_W0 U 89 i = U 90 i ∧ g_W0 U 92 i = U 93 i) ∧ (i < 16 → g_W0 U 95 i = U 96 i) ∧ (i < 2 → g_W0 U 101 i = U 102 i) := by
  unfold g_W0
  refine ⟨fun b => ⟨?_, ?_⟩, fun b => ⟨?_, ?_, ?_⟩, fun b => ?_, fun b => ?_⟩ <;> simp [f_copy, a, b]
theorem p_plan {C R : gj_M} (hd : g_DD C R) (c0 : 0 < C 3 0) (c1 : 0 < C 3 1) : ∃ N, F_X5_take C = some N ∧ g_PL N (g_W0 R) ∧ ∀ z, ¬ (14 ≤ z ∧ z ≤ 20) → N z = C z := by
  obtain ⟨N, e, h1, h2⟩ := p_take (M := C) (fun v a b => ⟨(hd.v5 v a b).2, (hd.v6 v a b).2, (hd.v7 v a b).2⟩)
  refine ⟨N, e, ?_, fun z hz => by rw [h2 z (by omega), g_T0_z (by omega)]⟩
  have b0 := hd.b0
  have b1 := hd.b1
  have e14 : ∀ k, 0 ≤ k → k < 10 → N 14 k = C 3 k := fun k a b => by rw [h2 14 (by decide), g_T0_14 a b]
  unfold g_PL
  rw [e14 0 (by decide) (by decide), e14 1 (by decide) (by decide), (g_W0_r (U := R) (i := 0) (by decide)).2.2.2 (by decide), (g_W0_r (U := R) (i := 1) (by decide)).2.2.2 (by decide)]
  refine ⟨hd.n0, hd.n1, by omega, by omega, fun k a b => ?_, fun i a b p => ?_, fun i a b => ?_, fun i a b => ?_, fun t a b => ?_⟩
  · rw [e14 _ (by omega) (by omega), ((g_W0_r (U := R) a).1 b).2]
    exact hd.hd k a b
  · have p : g_pe C 3 i := by
      unfold g_pe at p ⊢
      rw [e14 0 (by decide) (by decide), e14 1 (by decide) (by decide)] at p
      exact p
    rw [h2 15 (by decide), (g_T0_r (M := C) a).1 b, ((g_W0_r (U := R) a).1 b).1]
    exact hd.pr i a b p
  · rw [h2 16 (by decide), h2 17 (by decide), h2 18 (by decide)]
    obtain ⟨x1, x2, x3⟩ := (g_T0_r (M := C) a).2.1 b
    obtain ⟨y1, y2, y3⟩ := (g_W0_r (U := R) a).2.1 b
    rw [x1, x2, x3, y1, y2, y3]
    exact ⟨(hd.v5 i a b).1, (hd.v6 i a b).1, (hd.v7 i a b).1, (hd.v5 i a b).2, (hd.v6 i a b).2, (hd.v7 i a b).2⟩
  · rw [h2 19 (by decide), (g_T0_r (M := C) a).2.2 b, (g_W0_r (U := R) a).2.2.1 b]
    exact hd.v8 i a b
  · rw [h1 t a b]
    unfold g_st
    rw [h2 16 (by decide), h2 17 (by decide), h2 18 (by decide)]
