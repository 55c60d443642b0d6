/-! PURE: the weak relation is kept by image and on, and the answers agree -/
theorem g_cpL_o {M : gj_M} {z w a b : Int} (h : a < z ∨ z + 9 < a) : g_cpL M z w a b = M a b := by
  unfold g_cpL
  rw [f_copy_z (by omega), gj_up_z (by omega), gj_up_z (by omega), f_copy_z (by omega), f_copy_z (by omega), f_copy_z (by omega), f_copy_z (by omega), f_copy_z (by omega), f_copy_z (by omega), f_copy_z (by omega), gj_up_z (by omega), gj_up_z (by omega), gj_up_z (by omega)]
theorem g_cpL_01 {M : gj_M} {z w : Int} : g_cpL M z w z 0 = M w 0 ∧ g_cpL M z w z 1 = M w 1 ∧ g_cpL M z w z 2 = M w 2 := by
  unfold g_cpL
  refine ⟨?_, ?_, ?_⟩
  · rw [f_copy_z (by omega), gj_up_z (by omega), gj_up_z (by omega), f_copy_z (by omega), f_copy_z (by omega), f_copy_z (by omega), f_copy_z (by omega), f_copy_z (by omega), f_copy_z (by omega), f_copy_z (by omega), gj_up_i (by decide), gj_up_i (by decide), gj_up_eq]
  · rw [f_copy_z (by omega), gj_up_z (by omega), gj_up_z (by omega), f_copy_z (by omega), f_copy_z (by omega), f_copy_z (by omega), f_copy_z (by omega), f_copy_z (by omega), f_copy_z (by omega), f_copy_z (by omega), gj_up_i (by decide), gj_up_eq]
  · rw [f_copy_z (by omega), gj_up_z (by omega), gj_up_z (by omega), f_copy_z (by omega), f_copy_z (by omega), f_copy_z (by omega), f_copy_z (by omega), f_copy_z (by omega), f_copy_z (by omega), f_copy_z (by omega), gj_up_eq]
theorem g_cpL_5 {M : gj_M} {z w j : Int} (h : w + 10 ≤ z ∨ z + 10 ≤ w) (a : 0 ≤ j) (b : j < 16) : g_cpL M z w (z + 5) j = M (w + 5) j ∧ g_cpL M z w (z + 6) j = M (w + 6) j := by
  unfold g_cpL
  refine ⟨?_, ?_⟩
  · rw [f_copy_z (by omega), gj_up_z (by omega), gj_up_z (by omega), f_copy_z (by omega), f_copy_z (by omega), f_copy_in ⟨a, b, b⟩, f_copy_z (by omega), f_copy_z (by omega), f_copy_z (by omega), f_copy_z (by omega), gj_up_z (by omega), gj_up_z (by omega), gj_up_z (by omega)]
  · rw [f_copy_z (by omega), gj_up_z (by omega), gj_up_z (by omega), f_copy_z (by omega), f_copy_in ⟨a, b, b⟩, f_copy_z (by omega), f_copy_z (by omega), f_copy_z (by omega), f_copy_z (by omega), f_copy_z (by omega), gj_up_z (by omega), gj_up_z (by omega), gj_up_z (by omega)]
theorem w_no {M : gj_M} {i j : Int} (h : g_WK M M) : g_WK (gj_up (gj_up M 78 i (gj_w (M 78 i + 1))) 80 j (gj_w (gj_up M 78 i (gj_w (M 78 i + 1)) 80 j + 1))) (gj_up (gj_up M 78 i (gj_w (M 78 i + 1))) 80 j (gj_w (gj_up M 78 i (gj_w (M 78 i + 1)) 80 j + 1))) := by
  have f : gj_Fr [78, 80] [] M (gj_up (gj_up M 78 i (gj_w (M 78 i + 1))) 80 j (gj_w (gj_up M 78 i (gj_w (M 78 i + 1)) 80 j + 1))) := (gj_Fr.rf.up rfl).up rfl
  exact g_WK_d h f (by decide) (by decide)
theorem w_image {M : gj_M} {k : Int} (h : g_WK M M) : ∃ v D U, F_X11_image k M = some (v, D) ∧ F_X12_image k D = some (v, U) ∧ g_WK U U := by
  by_cases k3 : 0 ≤ k ∧ k ≤ 2
  · by_cases v0 : M 79 18 = 0
    · have e1 := c_imageNo2 (C := M) k3 (by rw [h.vs.st]; exact v0)
      have e2 := r_imageNo2 (R := gj_up M 78 2 (gj_w (M 78 2 + 1))) k3 (by rw [gj_up_z (by decide)]; exact v0)
      exact ⟨0, _, _, e1, e2, w_no h⟩
    · have v1 : M 79 18 = 1 := by have := h.vs.v; omega
      have e1 := c_imageYes (C := M) k3 (by rw [h.vs.st]; exact v0)
      have d77 : ∀ i, gj_up (g_cpL M (47 + 10 * k) 21) 77 k 1 77 i = if i = k then 1 else M 77 i := fun i => by rw [gj_up_if, g_cpL_o (by omega)]
      have do1 : ∀ a b, a ≠ 77 → (a < 47 + 10 * k ∨ 47 + 10 * k + 9 < a) → gj_up (g_cpL M (47 + 10 * k) 21) 77 k 1 a b = M a b := fun a b x y => by rw [gj_up_z x, g_cpL_o y]
      have d01 : gj_up (g_cpL M (47 + 10 * k) 21) 77 k 1 (47 + 10 * k) 0 = M 21 0 ∧ gj_up (g_cpL M (47 + 10 * k) 21) 77 k 1 (47 + 10 * k) 1 = M 21 1 := by
        rw [gj_up_z (by omega), gj_up_z (by omega), g_cpL_01.1, g_cpL_01.2.1]
        exact ⟨rfl, rfl⟩
      have d5 : ∀ j, 0 ≤ j → j < 16 → gj_up (g_cpL M (47 + 10 * k) 21) 77 k 1 (52 + 10 * k) j = M 26 j ∧ gj_up (g_cpL M (47 + 10 * k) 21) 77 k 1 (53 + 10 * k) j = M 27 j := fun j a b => by
        obtain ⟨x, y⟩ := g_cpL_5 (M := M) (z := 47 + 10 * k) (w := 21) (Or.inl (by omega)) a b
        rw [gj_up_z (by omega), gj_up_z (by omega), show 52 + 10 * k = 47 + 10 * k + 5 by omega, show 53 + 10 * k = 47 + 10 * k + 6 by omega, x, y]
        exact ⟨rfl, rfl⟩
      generalize gj_up (g_cpL M (47 + 10 * k) 21) 77 k 1 = D at *
      have hi : ∀ z i, 79 ≤ z → D z i = M z i := fun z i x => do1 z i (by omega) (by omega)
      have lo : ∀ z i, z < 47 → D z i = M z i := fun z i x => do1 z i (by omega) (by omega)
      obtain ⟨U, e2, ui, ⟨u0, u1, u2⟩, ⟨u3, u4⟩, uo⟩ := r_imageYes (R := D) k3 (by rw [hi 79 18 (by decide)]; exact v0)
      obtain ⟨h1, ⟨h2, h3, h4, h5, h6, h7⟩, h8, h9⟩ := h
      have g := h8 v1
      have ur : ∀ z i, (z < 131 ∧ ¬ (z = 79 ∧ i = 54)) → U z i = D z i := fun z i x => uo z i (by omega) (by omega) (by omega) (by omega)
      have e101 : U 101 = M 101 := funext fun i => by rw [ur 101 i (by omega), hi 101 i (by decide)]
      refine ⟨1, D, U, e1, e2, g_WK_lz (D := D) ⟨g_TX_s h1 (funext fun i => lo 1 i (by decide)) (funext fun i => lo 2 i (by decide)) (by rw [ur 79 2 (by omega), hi 79 2 (by decide)]) (funext fun i => by rw [ur 81 i (by omega), hi 81 i (by decide)]), ⟨g_VS_s h2 (fun z a b => funext fun i => lo z i (by omega)) (fun z e => funext fun i => by rw [ur z i (by omega), hi z i (by omega)]) (by rw [ur 79 18 (by omega), hi 79 18 (by decide)]), ?_, ?_, fun k' a b => ?_, ?_, fun k' a b => ?_⟩, fun _ => ?_, ?_⟩ (fun z i x => ur z i (by omega))⟩
      · rw [lo 21 1 (by decide), ur 79 28 (by omega), hi 79 28 (by decide)]; exact h3
      · rw [lo 21 0 (by decide), ur 79 27 (by omega), hi 79 27 (by decide)]; exact h4
      · rw [d77 k']
        by_cases ek : k' = k
        · rw [if_pos ek, ek, u4]
          refine ⟨rfl, fun _ => ⟨by rw [ur 79 18 (by omega), hi 79 18 (by decide)]; exact v1, ?_, ?_, ?_, fun j a b => ?_, fun j a b => ?_⟩⟩
          · rw [d01.1, u0, hi 79 27 (by decide)]; exact h4
          · rw [d01.2, u1, hi 79 28 (by decide)]; exact h3
          · rw [u2, hi 79 29 (by decide)]; exact h9
          · rw [(ui.1 j a b).1, hi 108 j (by decide)]
            have m := g.2.1 j a b
            unfold g_pe at *
            rw [e101]
            exact m
          · rw [(ui.2.1 j a b).1, (ui.2.1 j a b).2.1, hi 112 j (by decide), hi 113 j (by decide)]
            exact g.2.2 j a b
        · rw [if_neg ek]
          have q := h5 k' a b
          have eu : ∀ i, U (131 + k') i = M (131 + k') i := fun i => by rw [uo _ _ (by omega) (by omega) (by omega) (by omega), hi _ _ (by omega)]
          have e135 : U 135 k' = M 135 k' := by rw [uo _ _ (by omega) (by omega) (by omega) (by omega), hi _ _ (by omega)]
          have e18 : U 79 18 = M 79 18 := by rw [ur 79 18 (by omega), hi 79 18 (by decide)]
          have ed : ∀ i, D (47 + 10 * k') i = M (47 + 10 * k') i := fun i => do1 _ _ (by omega) (by omega)
          unfold g_WI g_pe at *
          simp only [eu, e135, e18, ed, e101]
          exact q
      · exact g_CK_s h6 (funext fun i => lo 26 i (by decide)) (funext fun i => lo 27 i (by decide))
      · intro j x y
        by_cases ek : k' = k
        · rw [ek, (d5 j x y).1, (d5 j x y).2]
          exact h6 j x y
        · rw [do1 _ _ (by omega) (by omega), do1 _ _ (by omega) (by omega)]
          exact h7 k' a b j x y
      · refine g_RG_s g (fun z e => funext fun i => ?_)
        have := g_rr_hi e
        have z131 : z < 131 ∧ z ≠ 79 := by
          have q := List.elem_iff.mp e
          unfold g_rr at q
          simp at q
          omega
        rw [ur z i (by omega), hi z i (by omega)]
      · rw [ur 79 29 (by omega), hi 79 29 (by decide)]; exact h9
  · have e1 := c_imageNo (C := M) k3
    have e2 := r_imageNo (R := gj_up M 78 0 (gj_w (M 78 0 + 1))) k3
    exact ⟨0, _, _, e1, e2, w_no h⟩
theorem w_on {M : gj_M} {k : Int} (h : g_WK M M) : ∃ v D U, F_X11_on k M = some (v, D) ∧ F_X12_on k D = some (v, U) ∧ g_WK U U := by
  by_cases k3 : (0 ≤ k ∧ k ≤ 2) ∧ M 135 k ≠ 0
  · obtain ⟨k3, hk⟩ := k3
    obtain ⟨h1, ⟨h2, h3, h4, h5, h6, h7⟩, h8, h9⟩ := h
    obtain ⟨q77, qi⟩ := h5 k k3.1 (by omega)
    obtain ⟨v1, ⟨i0, i0'⟩, i1, i2, i3, i4⟩ := qi hk
    have e1 := c_onYes (C := M) k3 (by rw [q77]; exact hk)
    have do1 : ∀ a b, (a < 21 ∨ 30 < a) → g_cpL M 21 (47 + 10 * k) a b = M a b := fun a b y => g_cpL_o (by omega)
    have d01 : g_cpL M 21 (47 + 10 * k) 21 0 = M (47 + 10 * k) 0 ∧ g_cpL M 21 (47 + 10 * k) 21 1 = M (47 + 10 * k) 1 := ⟨g_cpL_01.1, g_cpL_01.2.1⟩
    have d5 : ∀ j, 0 ≤ j → j < 16 → g_cpL M 21 (47 + 10 * k) 26 j = M (52 + 10 * k) j ∧ g_cpL M 21 (47 + 10 * k) 27 j = M (53 + 10 * k) j := fun j a b => by
      obtain ⟨x, y⟩ := g_cpL_5 (M := M) (z := 21) (w := 47 + 10 * k) (Or.inr (by omega)) a b
      rw [show (26 : Int) = 21 + 5 from rfl, show (27 : Int) = 21 + 6 from rfl, x, y, show 47 + 10 * k + 5 = 52 + 10 * k by omega, show 47 + 10 * k + 6 = 53 + 10 * k by omega]
      exact ⟨rfl, rfl⟩
    generalize g_cpL M 21 (47 + 10 * k) = D at *
    have hi : ∀ z i, 79 ≤ z → D z i = M z i := fun z i x => do1 z i (by omega)
    obtain ⟨U, e2, ui, ⟨u0, u1, u2, u3⟩, uo⟩ := r_onYes (R := D) k3 (by rw [hi 135 k (by decide)]; exact hk)
    have g := h8 v1
    have ur : ∀ z i, 79 ≤ z → ¬ ((108 ≤ z ∧ z ≤ 114) ∨ z = 122 ∨ z = 79) → U z i = M z i := fun z i c x => by rw [uo z i (by omega) (by omega), hi z i c]
    have e101 : U 101 = M 101 := funext fun i => ur 101 i (by decide) (by decide)
    have e18 : U 79 18 = M 79 18 := by rw [uo 79 18 (by omega) (by omega), hi 79 18 (by decide)]
    refine ⟨1, D, U, e1, e2, g_WK_lz (D := D) ⟨g_TX_s h1 (funext fun i => do1 1 i (by decide)) (funext fun i => do1 2 i (by decide)) (by rw [uo 79 2 (by omega) (by omega), hi 79 2 (by decide)]) (funext fun i => ur 81 i (by decide) (by decide)), g_WB_g (C := M) (R := M) ⟨h2, h3, h4, h5, h6, h7⟩ (fun z e => funext fun i => ?_) (fun j a b => ?_) ?_ ?_ (fun z e => funext fun i => ?_) e18, fun _ => ?_, ?_⟩ (fun z i x => uo z i (by omega) (by omega))⟩
    · refine do1 z i ?_
      have q := List.elem_iff.mp e
      unfold g_wx at q
      simp at q
      omega
    · rw [(d5 j a b).1, (d5 j a b).2]
      exact h7 k k3.1 (by omega) j a b
    · rw [d01.1, u0, hi _ _ (by omega)]
      exact ⟨i0, i0'⟩
    · rw [d01.2, u1, hi _ _ (by omega)]
      exact i1
    · refine ur z i ?_ ?_
      · exact (g_wr_hi e).1
      · have q := List.elem_iff.mp e
        unfold g_wr at q
        simp at q
        omega
    · refine g.ch (fun z hz => funext fun i => ur z i (by omega) (by omega)) (fun j a b => ?_) (fun j a b => ?_)
      · have m := i3 j a b
        have e := (ui.1 j a b).1
        rw [hi _ _ (by omega)] at e
        unfold g_pe at *
        rw [e101, ← e]
        exact m
      · have m := i4 j a b
        have e := ui.2.1 j a b
        rw [hi _ _ (by omega), hi _ _ (by omega)] at e
        rw [← e.1, ← e.2.1]
        exact m
    · rw [u2, hi _ _ (by omega)]
      exact i2
  · have no : ¬ (0 ≤ k ∧ k ≤ 2) ∨ M 135 k = 0 := by omega
    have e1 := c_onNo (C := M) (k := k) (by
      rcases no with x | x
      · exact Or.inl x
      · by_cases c : 0 ≤ k ∧ k ≤ 2
        · right
          rw [(h.2.1.2.2.2.1 k c.1 (by omega)).1]
          exact x
        · exact Or.inl c)
    have e2 := r_onNo (R := gj_up M 78 0 (gj_w (M 78 0 + 1))) (k := k) (by rw [gj_up_z (by decide)]; exact no)
    exact ⟨0, _, _, e1, e2, w_no h⟩
