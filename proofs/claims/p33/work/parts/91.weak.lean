/-! PURE: the weak relation: text, plan, year, way and images alike; the rest in its ranges -/
def g_WI (k : Int) (C R : gj_M) : Prop :=
  (C (47 + 10 * k) 0 = R (131 + k) 0 ∧ gj_w (R (131 + k) 0) = R (131 + k) 0)
  ∧ (C (47 + 10 * k) 1 = R (131 + k) 1 ∧ 0 ≤ R (131 + k) 1 ∧ R (131 + k) 1 ≤ 3)
  ∧ (0 ≤ R (131 + k) 2 ∧ R (131 + k) 2 ≤ 40)
  ∧ (∀ j, 0 ≤ j → j < 8 → R (131 + k) (4 + j) = -1 ∨ ((0 ≤ R (131 + k) (4 + j) ∧ R (131 + k) (4 + j) < 8 ∧ (j < 4 ↔ ¬ R (131 + k) (4 + j) < 4)) ∧ g_pe R 101 (R (131 + k) (4 + j))))
  ∧ (∀ j, 0 ≤ j → j < 16 → g_K (R (131 + k) (36 + j)) (R (131 + k) (52 + j)))
def g_CI (k : Int) (C : gj_M) : Prop := ∀ j, 0 ≤ j → j < 16 → g_K (C (52 + 10 * k) j) (C (53 + 10 * k) j)
def g_WB (C R : gj_M) : Prop :=
  g_VS C R
  ∧ (C 21 1 = R 79 28 ∧ 0 ≤ R 79 28 ∧ R 79 28 ≤ 3)
  ∧ (C 21 0 = R 79 27 ∧ gj_w (R 79 27) = R 79 27)
  ∧ (∀ k, 0 ≤ k → k < 3 → C 77 k = R 135 k ∧ (R 135 k ≠ 0 → R 79 18 = 1 ∧ g_WI k C R))
  ∧ g_CK C
  ∧ (∀ k, 0 ≤ k → k < 3 → g_CI k C)
theorem g_VS_s {C R D U : gj_M} (h : g_VS C R) (hc : ∀ z, 14 ≤ z → z ≤ 20 → D z = C z) (hr : ∀ z, z = 83 ∨ z = 86 ∨ z = 89 ∨ z = 92 ∨ z = 95 ∨ z = 98 ∨ z = 101 → U z = R z) (h18 : U 79 18 = R 79 18) : g_VS D U := by
  rcases h with ⟨a, b, c⟩ | ⟨a, p⟩
  · left
    rw [h18, hc 14 (by decide) (by decide)]
    exact ⟨a, b, c⟩
  · right
    rw [h18]
    exact ⟨a, g_PL_s p hc hr⟩
def g_wc : List Int := [14, 15, 16, 17, 18, 19, 20, 26, 27, 47, 52, 53, 57, 62, 63, 67, 72, 73, 77]
def g_wr : List Int := [83, 86, 89, 92, 95, 98, 101, 131, 132, 133, 135]
theorem g_wc_136 {z : Int} (h : g_wc.contains z = true) : z < 136 := by
  have := List.elem_iff.mp h
  unfold g_wc at this
  simp at this
  omega
theorem g_wr_136 {z : Int} (h : g_wr.contains z = true) : z < 136 := by
  have := List.elem_iff.mp h
  unfold g_wr at this
  simp at this
  omega
theorem g_k3 {k : Int} (a : 0 ≤ k) (b : k < 3) : k = 0 ∨ k = 1 ∨ k = 2 := by omega
theorem g_WB_s {C R D U : gj_M} (h : g_WB C R) (hc : ∀ z, g_wc.contains z = true → D z = C z) (c0 : D 21 0 = C 21 0) (c1 : D 21 1 = C 21 1) (hr : ∀ z, g_wr.contains z = true → U z = R z) (r1 : U 79 18 = R 79 18) (r2 : U 79 27 = R 79 27) (r3 : U 79 28 = R 79 28) : g_WB D U := by
  obtain ⟨h1, h2, h3, h4, h5, h6⟩ := h
  refine ⟨g_VS_s h1 (fun z a b => hc z ?_) (fun z e => hr z (by rcases e with e | e | e | e | e | e | e <;> rw [e] <;> rfl)) r1, ?_, ?_, fun k a b => ?_, g_CK_s h5 (hc 26 rfl) (hc 27 rfl), fun k a b => ?_⟩
  · have : z = 14 ∨ z = 15 ∨ z = 16 ∨ z = 17 ∨ z = 18 ∨ z = 19 ∨ z = 20 := by omega
    rcases this with e | e | e | e | e | e | e <;> rw [e] <;> rfl
  · rw [c1, r3]; exact h2
  · rw [c0, r2]; exact h3
  · have q := h4 k a b
    unfold g_WI g_pe at *
    rcases g_k3 a b with e | e | e <;> rw [e] at q ⊢
    · rw [hc 77 rfl, hr 135 rfl, r1, hc (47 + 10 * 0) rfl, hr (131 + 0) rfl, hr 101 rfl]; exact q
    · rw [hc 77 rfl, hr 135 rfl, r1, hc (47 + 10 * 1) rfl, hr (131 + 1) rfl, hr 101 rfl]; exact q
    · rw [hc 77 rfl, hr 135 rfl, r1, hc (47 + 10 * 2) rfl, hr (131 + 2) rfl, hr 101 rfl]; exact q
  · have q := h6 k a b
    unfold g_CI at *
    rcases g_k3 a b with e | e | e <;> rw [e] at q ⊢
    · rw [hc (52 + 10 * 0) rfl, hc (53 + 10 * 0) rfl]; exact q
    · rw [hc (52 + 10 * 1) rfl, hc (53 + 10 * 1) rfl]; exact q
    · rw [hc (52 + 10 * 2) rfl, hc (53 + 10 * 2) rfl]; exact q
/-- a frame leaves some rows and some cells -/
def g_aw (os : List Int) (ps : List (Int × Int)) (l : List Int) (q : List (Int × Int)) : Bool := (os.all (fun z => !(l.contains z)) && ps.all (fun x => !(l.contains x.1))) && q.all (fun x => !(gj_fp os ps x.1 x.2))
theorem g_aw_c {os : List Int} {ps : List (Int × Int)} {l : List Int} {q : List (Int × Int)} (h : g_aw os ps l q = true) {z i : Int} (hq : q.contains (z, i) = true) : gj_fp os ps z i = false := by
  unfold g_aw at h
  rw [Bool.and_eq_true] at h
  have h1 := List.all_eq_true.mp h.2 (z, i) (List.elem_iff.mp hq)
  simpa using h1
theorem g_WB_fr {C R D U : gj_M} {os os' : List Int} {ps ps' : List (Int × Int)} (h : g_WB C R) (f : gj_Fr os ps C D) (f' : gj_Fr os' ps' R U) (hc : g_aw os ps g_wc [(21, 0), (21, 1)] = true) (hr : g_aw os' ps' g_wr [(79, 18), (79, 27), (79, 28)] = true) : g_WB D U :=
  g_WB_s h (fun z hz => g_fr_row g_wc f (by unfold g_aw at hc; rw [Bool.and_eq_true] at hc; exact hc.1) z hz (g_wc_136 hz)) (f 21 0 (by decide) (g_aw_c hc rfl)) (f 21 1 (by decide) (g_aw_c hc rfl))
    (fun z hz => g_fr_row g_wr f' (by unfold g_aw at hr; rw [Bool.and_eq_true] at hr; exact hr.1) z hz (g_wr_136 hz)) (f' 79 18 (by decide) (g_aw_c hr rfl)) (f' 79 27 (by decide) (g_aw_c hr rfl)) (f' 79 28 (by decide) (g_aw_c hr rfl))
/-- the whole weak relation -/
def g_WK (C R : gj_M) : Prop := g_TX C R ∧ g_WB C R ∧ (R 79 18 = 1 → g_RG R) ∧ (0 ≤ R 79 29 ∧ R 79 29 ≤ 40)
theorem g_WK.vs {C R : gj_M} (h : g_WK C R) : g_VS C R := h.2.1.1
theorem g_WK.rg {C R : gj_M} (h : g_WK C R) : R 79 18 = 1 → g_RG R := h.2.2.1
theorem g_VS.v {C R : gj_M} (h : g_VS C R) : R 79 18 = 0 ∨ R 79 18 = 1 := by rcases h with x | x <;> omega
theorem g_VS.c4 {C R : gj_M} (h : g_VS C R) : g_C4 C := by
  rcases h with ⟨a, b, c⟩ | ⟨a, p⟩
  · exact ⟨by omega, by omega⟩
  · have b0 := p.b0
    have b1 := p.b1
    exact ⟨by omega, by omega⟩
theorem g_VS.st {C R : gj_M} (h : g_VS C R) : f_X5_stands_14 C = R 79 18 := by
  unfold f_X5_stands_14
  rcases h with ⟨a, b, c⟩ | ⟨a, p⟩
  · rw [if_pos (by omega), a]
  · have b0 := p.b0
    have b1 := p.b1
    rw [if_neg (by omega), if_neg (by omega), a]
theorem g_WK_fr {C R D U : gj_M} {os os' : List Int} {ps ps' : List (Int × Int)} (h : g_WK C R) (f : gj_Fr os ps C D) (f' : gj_Fr os' ps' R U) (hc : g_aw os ps (1 :: 2 :: g_wc) [(21, 0), (21, 1)] = true) (hr : g_aw os' ps' (81 :: 108 :: 112 :: 113 :: g_wr) [(79, 2), (79, 18), (79, 27), (79, 28), (79, 29)] = true) : g_WK D U := by
  obtain ⟨h1, h2, h3, h4⟩ := h
  have hc1 : (os.all (fun z => !((1 :: 2 :: g_wc).contains z)) && ps.all (fun q => !((1 :: 2 :: g_wc).contains q.1))) = true := by unfold g_aw at hc; rw [Bool.and_eq_true] at hc; exact hc.1
  have hr1 : (os'.all (fun z => !((81 :: 108 :: 112 :: 113 :: g_wr).contains z)) && ps'.all (fun q => !((81 :: 108 :: 112 :: 113 :: g_wr).contains q.1))) = true := by unfold g_aw at hr; rw [Bool.and_eq_true] at hr; exact hr.1
  have rc : ∀ z, (1 :: 2 :: g_wc).contains z = true → z < 136 → D z = C z := fun z hz k => g_fr_row _ f hc1 z hz k
  have rr : ∀ z, (81 :: 108 :: 112 :: 113 :: g_wr).contains z = true → z < 136 → U z = R z := fun z hz k => g_fr_row _ f' hr1 z hz k
  have i18 : U 79 18 = R 79 18 := f' 79 18 (by decide) (g_aw_c hr rfl)
  refine ⟨g_TX_s h1 (rc 1 rfl (by decide)) (rc 2 rfl (by decide)) (f' 79 2 (by decide) (g_aw_c hr rfl)) (rr 81 rfl (by decide)), g_WB_s h2 (fun z hz => rc z (by rw [List.contains_cons, List.contains_cons, hz]; simp) (g_wc_136 hz)) (f 21 0 (by decide) (g_aw_c hc rfl)) (f 21 1 (by decide) (g_aw_c hc rfl)) (fun z hz => rr z (by rw [List.contains_cons, List.contains_cons, List.contains_cons, List.contains_cons, hz]; simp) (g_wr_136 hz)) i18 (f' 79 27 (by decide) (g_aw_c hr rfl)) (f' 79 28 (by decide) (g_aw_c hr rfl)), fun v => ?_, ?_⟩
  · refine g_RG_s (h3 (by rw [← i18]; exact v)) (fun z hz => rr z ?_ (g_rr_136 hz))
    have := List.elem_iff.mp hz
    unfold g_rr at this
    simp at this
    rcases this with e | e | e | e | e | e | e | e | e | e <;> rw [e] <;> rfl
  · rw [f' 79 29 (by decide) (g_aw_c hr rfl)]
    exact h4
