/-! PURE: the full relation is kept by image and on, and the answers agree -/
theorem g_cpL_r {M : gj_M} {z w c j : Int} (h : w + 10 ≤ z ∨ z + 10 ≤ w) (hc : (1 ≤ c ∧ c ≤ 4 ∧ 0 ≤ j ∧ j < 8) ∨ (5 ≤ c ∧ c ≤ 7 ∧ 0 ≤ j ∧ j < 16) ∨ (c = 9 ∧ 0 ≤ j ∧ j < 200) ∨ (c = 8 ∧ (j = 1 ∨ j = 2)) ∨ (c = 0 ∧ 0 ≤ j ∧ j ≤ 2)) : g_cpL M z w (z + c) j = M (w + c) j := by
  have cs : c = 0 ∨ c = 1 ∨ c = 2 ∨ c = 3 ∨ c = 4 ∨ c = 5 ∨ c = 6 ∨ c = 7 ∨ c = 8 ∨ c = 9 := by omega
  rcases cs with e | e | e | e | e | e | e | e | e | e
  · rw [e, Int.add_zero, Int.add_zero]
    have : j = 0 ∨ j = 1 ∨ j = 2 := by omega
    rcases this with q | q | q <;> rw [q]
    · exact g_cpL_01.1
    · exact g_cpL_01.2.1
    · exact g_cpL_01.2.2
  · rw [e]
    unfold g_cpL
    rw [f_copy_z (by omega), gj_up_z (by omega), gj_up_z (by omega), f_copy_z (by omega), f_copy_z (by omega), f_copy_z (by omega), f_copy_z (by omega), f_copy_z (by omega), f_copy_z (by omega), f_copy_in (by omega), gj_up_z (by omega), gj_up_z (by omega), gj_up_z (by omega)]
  · rw [e]
    unfold g_cpL
    rw [f_copy_z (by omega), gj_up_z (by omega), gj_up_z (by omega), f_copy_z (by omega), f_copy_z (by omega), f_copy_z (by omega), f_copy_z (by omega), f_copy_z (by omega), f_copy_in (by omega), f_copy_z (by omega), gj_up_z (by omega), gj_up_z (by omega), gj_up_z (by omega)]
  · rw [e]
    unfold g_cpL
    rw [f_copy_z (by omega), gj_up_z (by omega), gj_up_z (by omega), f_copy_z (by omega), f_copy_z (by omega), f_copy_z (by omega), f_copy_z (by omega), f_copy_in (by omega), f_copy_z (by omega), f_copy_z (by omega), gj_up_z (by omega), gj_up_z (by omega), gj_up_z (by omega)]
  · rw [e]
    unfold g_cpL
    rw [f_copy_z (by omega), gj_up_z (by omega), gj_up_z (by omega), f_copy_z (by omega), f_copy_z (by omega), f_copy_z (by omega), f_copy_in (by omega), f_copy_z (by omega), f_copy_z (by omega), f_copy_z (by omega), gj_up_z (by omega), gj_up_z (by omega), gj_up_z (by omega)]
  · rw [e]
    unfold g_cpL
    rw [f_copy_z (by omega), gj_up_z (by omega), gj_up_z (by omega), f_copy_z (by omega), f_copy_z (by omega), f_copy_in (by omega), f_copy_z (by omega), f_copy_z (by omega), f_copy_z (by omega), f_copy_z (by omega), gj_up_z (by omega), gj_up_z (by omega), gj_up_z (by omega)]
  · rw [e]
    unfold g_cpL
    rw [f_copy_z (by omega), gj_up_z (by omega), gj_up_z (by omega), f_copy_z (by omega), f_copy_in (by omega), f_copy_z (by omega), f_copy_z (by omega), f_copy_z (by omega), f_copy_z (by omega), f_copy_z (by omega), gj_up_z (by omega), gj_up_z (by omega), gj_up_z (by omega)]
  · rw [e]
    unfold g_cpL
    rw [f_copy_z (by omega), gj_up_z (by omega), gj_up_z (by omega), f_copy_in (by omega), f_copy_z (by omega), f_copy_z (by omega), f_copy_z (by omega), f_copy_z (by omega), f_copy_z (by omega), f_copy_z (by omega), gj_up_z (by omega), gj_up_z (by omega), gj_up_z (by omega)]
  · rw [e]
    unfold g_cpL
    have : j = 1 ∨ j = 2 := by omega
    rcases this with q | q <;> rw [q]
    · rw [f_copy_z (by omega), gj_up_i (by decide), gj_up_eq]
    · rw [f_copy_z (by omega), gj_up_eq]
  · rw [e]
    unfold g_cpL
    rw [f_copy_in (by omega), gj_up_z (by omega), gj_up_z (by omega), f_copy_z (by omega), f_copy_z (by omega), f_copy_z (by omega), f_copy_z (by omega), f_copy_z (by omega), f_copy_z (by omega), f_copy_z (by omega), gj_up_z (by omega), gj_up_z (by omega), gj_up_z (by omega)]
theorem x_image {M : gj_M} {k : Int} (h : g_FK M M) : ∃ v D U, F_X11_image k M = some (v, D) ∧ F_X12_image k D = some (v, U) ∧ g_FK U U := by
  obtain ⟨v, D, U, e1, e2, hU⟩ := w_image (k := k) h.1
  refine ⟨v, D, U, e1, e2, hU, ?_⟩
  by_cases k3 : 0 ≤ k ∧ k ≤ 2
  · by_cases v0 : M 79 18 = 0
    · obtain ⟨-, rfl⟩ := g_some2 e1 (c_imageNo2 (C := M) k3 (by rw [h.1.vs.st]; exact v0))
      obtain ⟨-, rfl⟩ := g_some2 e2 (r_imageNo2 (R := gj_up M 78 2 (gj_w (M 78 2 + 1))) k3 (by rw [gj_up_z (by decide)]; exact v0))
      exact g_FL_no h.2
    · have v1 : M 79 18 = 1 := by have := h.1.vs.v; omega
      obtain ⟨-, hD⟩ := g_some2 e1 (c_imageYes (C := M) k3 (by rw [h.1.vs.st]; exact v0))
      have do1 : ∀ a b, a ≠ 77 → (a < 47 + 10 * k ∨ 47 + 10 * k + 9 < a) → D a b = M a b := fun a b x y => by rw [hD, gj_up_z x, g_cpL_o y]
      have dc : ∀ c j, ((1 ≤ c ∧ c ≤ 4 ∧ 0 ≤ j ∧ j < 8) ∨ (5 ≤ c ∧ c ≤ 7 ∧ 0 ≤ j ∧ j < 16) ∨ (c = 9 ∧ 0 ≤ j ∧ j < 200) ∨ (c = 8 ∧ (j = 1 ∨ j = 2)) ∨ (c = 0 ∧ 0 ≤ j ∧ j ≤ 2)) → D (47 + 10 * k + c) j = M (21 + c) j := fun c j q => by
        rw [hD, gj_up_z (by omega)]
        exact g_cpL_r (Or.inl (by omega)) q
      have hi : ∀ z i, 79 ≤ z → D z i = M z i := fun z i x => do1 z i (by omega) (by omega)
      have lo : ∀ z i, z < 47 → D z i = M z i := fun z i x => do1 z i (by omega) (by omega)
      obtain ⟨U', y2, ui, ⟨u0, u1, u2⟩, ⟨u3, u4⟩, uo⟩ := r_imageYes (R := D) k3 (by rw [hi 79 18 (by decide)]; exact v0)
      obtain ⟨-, rfl⟩ := g_some2 e2 y2
      have ur : ∀ z i, (z < 131 ∧ ¬ (z = 79 ∧ i = 54)) → U z i = D z i := fun z i x => uo z i (by omega) (by omega) (by omega) (by omega)
      have rr : ∀ z i, 79 ≤ z → (z < 131 ∧ ¬ (z = 79 ∧ i = 54)) → U z i = M z i := fun z i a x => (ur z i x).trans (hi z i a)
      have cc : ∀ z i, z < 47 → U z i = M z i := fun z i a => (ur z i ⟨by omega, by omega⟩).trans (lo z i a)
      obtain ⟨n, im⟩ := h.2.2 v1
      refine ⟨fun i i0 i1 => ?_, fun _ => ⟨?_, fun k' a b hk => ?_⟩⟩
      · rw [ur 78 i (by omega), do1 78 i (by decide) (by omega), rr 80 i (by decide) (by omega)]
        exact h.2.1 i i0 i1
      · exact g_NO_pt n (fun z a b => funext fun i => cc z i (by omega)) (fun z e => funext fun i => rr z i (by omega) (by omega)) (fun z j a b _ _ => cc z j (by omega)) (fun z j a b _ _ => cc z j (by omega)) (fun x _ _ => cc 30 x (by decide)) (fun i _ _ => cc 21 i (by decide)) ⟨cc 29 1 (by decide), cc 29 2 (by decide)⟩ (fun z j a b _ _ => rr z j (by omega) (by omega)) (fun z j a b _ _ => rr z j (by omega) (by omega)) (fun x _ _ => rr 122 x (by decide) (by omega)) (fun i a b => rr 79 i (by decide) (by omega))
      · by_cases ek : k' = k
        · rw [ek]
          have vc : ∀ c j, ((1 ≤ c ∧ c ≤ 4 ∧ 0 ≤ j ∧ j < 8) ∨ (5 ≤ c ∧ c ≤ 7 ∧ 0 ≤ j ∧ j < 16) ∨ (c = 9 ∧ 0 ≤ j ∧ j < 200) ∨ (c = 8 ∧ (j = 1 ∨ j = 2)) ∨ (c = 0 ∧ 0 ≤ j ∧ j ≤ 2)) → g_vC k U (21 + c) j = M (21 + c) j := fun c j q => by
            unfold g_vC
            rw [if_pos (by omega), ur _ _ ⟨by omega, by omega⟩, show 21 + c + 26 + 10 * k = 47 + 10 * k + c by omega]
            exact dc c j q
          have vc2 : ∀ z j, ((22 ≤ z ∧ z ≤ 25 ∧ 0 ≤ j ∧ j < 8) ∨ (26 ≤ z ∧ z ≤ 28 ∧ 0 ≤ j ∧ j < 16) ∨ (z = 30 ∧ 0 ≤ j ∧ j < 200) ∨ (z = 29 ∧ (j = 1 ∨ j = 2)) ∨ (z = 21 ∧ 0 ≤ j ∧ j ≤ 2)) → g_vC k U z j = M z j := fun z j q => by
            have := vc (z - 21) j (by omega)
            rw [show 21 + (z - 21) = z by omega] at this
            exact this
          refine g_NO_pt n (fun z a b => funext fun i => ?_) (fun z e => funext fun i => ?_) (fun z j a b x y => vc2 z j (by omega)) (fun z j a b x y => vc2 z j (by omega)) (fun x a b => vc2 30 x (by omega)) (fun i a b => vc2 21 i (by omega)) ⟨vc2 29 1 (by omega), vc2 29 2 (by omega)⟩ (fun z j a b x y => ?_) (fun z j a b x y => ?_) (fun x a b => ?_) (fun i a b => ?_)
          · unfold g_vC
            rw [if_neg (by omega)]
            exact cc z i (by omega)
          · unfold g_vR
            rw [if_neg (by omega), if_neg (by omega), if_neg (by omega), if_neg (by omega), if_neg (by omega)]
            exact rr z i (by omega) (by omega)
          · unfold g_vR
            rw [if_neg (by omega), if_neg (by omega), if_pos ⟨a, b⟩]
            obtain ⟨t1, t2, t3, t4⟩ := ui.1 j x y
            have : z = 108 ∨ z = 109 ∨ z = 110 ∨ z = 111 := by omega
            rcases this with e | e | e | e <;> rw [e]
            · rw [show 4 + 8 * ((108 : Int) - 108) + j = 4 + j by omega, t1]; exact hi 108 j (by decide)
            · rw [show 4 + 8 * ((109 : Int) - 108) + j = 12 + j by omega, t2]; exact hi 109 j (by decide)
            · rw [show 4 + 8 * ((110 : Int) - 108) + j = 20 + j by omega, t3]; exact hi 110 j (by decide)
            · rw [show 4 + 8 * ((111 : Int) - 108) + j = 28 + j by omega, t4]; exact hi 111 j (by decide)
          · unfold g_vR
            rw [if_neg (by omega), if_neg (by omega), if_neg (by omega), if_pos ⟨a, b⟩]
            obtain ⟨t1, t2, t3⟩ := ui.2.1 j x y
            have : z = 112 ∨ z = 113 ∨ z = 114 := by omega
            rcases this with e | e | e <;> rw [e]
            · rw [show 36 + 16 * ((112 : Int) - 112) + j = 36 + j by omega, t1]; exact hi 112 j (by decide)
            · rw [show 36 + 16 * ((113 : Int) - 112) + j = 52 + j by omega, t2]; exact hi 113 j (by decide)
            · rw [show 36 + 16 * ((114 : Int) - 112) + j = 68 + j by omega, t3]; exact hi 114 j (by decide)
          · unfold g_vR
            rw [if_neg (by omega), if_neg (by omega), if_neg (by omega), if_neg (by omega), if_pos rfl, ui.2.2 x a b]
            exact hi 122 x (by decide)
          · unfold g_vR
            have : i = 27 ∨ i = 28 ∨ i = 29 ∨ i = 30 := by omega
            rcases this with e | e | e | e <;> rw [e]
            · rw [if_pos (by omega), show (27 : Int) - 27 = 0 from rfl, u0]; exact hi 79 27 (by decide)
            · rw [if_pos (by omega), show (28 : Int) - 27 = 1 from rfl, u1]; exact hi 79 28 (by decide)
            · rw [if_pos (by omega), show (29 : Int) - 27 = 2 from rfl, u2]; exact hi 79 29 (by decide)
            · rw [if_neg (by omega), if_pos (by omega), u3]; exact hi 79 30 (by decide)
        · have hk' : M 135 k' ≠ 0 := by
            rw [uo 135 k' (by omega) (by omega) (by omega) (by omega), hi 135 k' (by decide)] at hk
            exact hk
          refine g_FI_1 ⟨a, b⟩ (im k' a b hk') (fun z i q => ?_) (fun z i q => ?_) ?_
          · rcases q with q | q
            · exact cc z i (by omega)
            · rw [ur z i ⟨by omega, by omega⟩]
              exact do1 z i (by omega) (by omega)
          · rcases q with q | q
            · exact rr z i (by omega) (by omega)
            · rw [uo z i (by omega) (by omega) (by omega) (by omega)]
              exact hi z i (by omega)
          · rw [uo 134 k' (by omega) (by omega) (by omega) (by omega)]
            exact hi 134 k' (by decide)
  · obtain ⟨-, rfl⟩ := g_some2 e1 (c_imageNo (C := M) k3)
    obtain ⟨-, rfl⟩ := g_some2 e2 (r_imageNo (R := gj_up M 78 0 (gj_w (M 78 0 + 1))) k3)
    exact g_FL_no h.2
theorem x_on {M : gj_M} {k : Int} (h : g_FK M M) : ∃ v D U, F_X11_on k M = some (v, D) ∧ F_X12_on k D = some (v, U) ∧ g_FK U U := by
  obtain ⟨v, D, U, e1, e2, hU⟩ := w_on (k := k) h.1
  refine ⟨v, D, U, e1, e2, hU, ?_⟩
  by_cases k3 : (0 ≤ k ∧ k ≤ 2) ∧ M 135 k ≠ 0
  · obtain ⟨k3, hk⟩ := k3
    obtain ⟨q77, qi⟩ := h.1.2.1.2.2.2.1 k k3.1 (by omega)
    have v1 : M 79 18 = 1 := (qi hk).1
    obtain ⟨-, hD⟩ := g_some2 e1 (c_onYes (C := M) k3 (by rw [q77]; exact hk))
    have do1 : ∀ a b, (a < 21 ∨ 30 < a) → D a b = M a b := fun a b y => by rw [hD, g_cpL_o (by omega)]
    have dc : ∀ c j, ((1 ≤ c ∧ c ≤ 4 ∧ 0 ≤ j ∧ j < 8) ∨ (5 ≤ c ∧ c ≤ 7 ∧ 0 ≤ j ∧ j < 16) ∨ (c = 9 ∧ 0 ≤ j ∧ j < 200) ∨ (c = 8 ∧ (j = 1 ∨ j = 2)) ∨ (c = 0 ∧ 0 ≤ j ∧ j ≤ 2)) → D (21 + c) j = M (47 + 10 * k + c) j := fun c j q => by
      rw [hD]
      exact g_cpL_r (Or.inr (by omega)) q
    have hi : ∀ z i, 79 ≤ z → D z i = M z i := fun z i x => do1 z i (by omega)
    obtain ⟨U', y2, ui, ⟨u0, u1, u2, u3⟩, uo⟩ := r_onYes (R := D) k3 (by rw [hi 135 k (by decide)]; exact hk)
    obtain ⟨-, rfl⟩ := g_some2 e2 y2
    have ul : ∀ z i, z < 79 → U z i = D z i := fun z i x => uo z i (by omega) (by omega)
    have ur : ∀ z i, 79 ≤ z → ¬ ((108 ≤ z ∧ z ≤ 114) ∨ z = 122 ∨ z = 79) → U z i = M z i := fun z i c x => by rw [uo z i (by omega) (by omega), hi z i c]
    have cc : ∀ z i, z < 79 → (z < 21 ∨ 30 < z) → U z i = M z i := fun z i a b => (ul z i a).trans (do1 z i b)
    obtain ⟨n, im⟩ := h.2.2 v1
    have nk := im k k3.1 (by omega) hk
    refine ⟨fun i i0 i1 => ?_, fun _ => ⟨?_, fun k' a b hk' => ?_⟩⟩
    · rw [cc 78 i (by decide) (by decide), ur 80 i (by decide) (by decide)]
      exact h.2.1 i i0 i1
    · have vc2 : ∀ z j, ((22 ≤ z ∧ z ≤ 25 ∧ 0 ≤ j ∧ j < 8) ∨ (26 ≤ z ∧ z ≤ 28 ∧ 0 ≤ j ∧ j < 16) ∨ (z = 30 ∧ 0 ≤ j ∧ j < 200) ∨ (z = 29 ∧ (j = 1 ∨ j = 2)) ∨ (z = 21 ∧ 0 ≤ j ∧ j ≤ 2)) → U z j = g_vC k M z j := fun z j q => by
        have := dc (z - 21) j (by omega)
        rw [show 21 + (z - 21) = z by omega] at this
        unfold g_vC
        rw [ul z j (by omega), this, if_pos (by omega)]
        congr 1
        omega
      refine g_NO_pt nk (fun z a b => funext fun i => ?_) (fun z e => funext fun i => ?_) (fun z j a b x y => vc2 z j (by omega)) (fun z j a b x y => vc2 z j (by omega)) (fun x a b => vc2 30 x (by omega)) (fun i a b => vc2 21 i (by omega)) ⟨vc2 29 1 (by omega), vc2 29 2 (by omega)⟩ (fun z j a b x y => ?_) (fun z j a b x y => ?_) (fun x a b => ?_) (fun i a b => ?_)
      · unfold g_vC
        rw [if_neg (by omega)]
        exact cc z i (by omega) (by omega)
      · unfold g_vR
        rw [if_neg (by omega), if_neg (by omega), if_neg (by omega), if_neg (by omega), if_neg (by omega)]
        exact ur z i (by omega) (by omega)
      · unfold g_vR
        rw [if_neg (by omega), if_neg (by omega), if_pos ⟨a, b⟩]
        obtain ⟨t1, t2, t3, t4⟩ := ui.1 j x y
        have : z = 108 ∨ z = 109 ∨ z = 110 ∨ z = 111 := by omega
        rcases this with e | e | e | e <;> rw [e]
        · rw [show 4 + 8 * ((108 : Int) - 108) + j = 4 + j by omega, ← t1]; exact hi _ _ (by omega)
        · rw [show 4 + 8 * ((109 : Int) - 108) + j = 12 + j by omega, ← t2]; exact hi _ _ (by omega)
        · rw [show 4 + 8 * ((110 : Int) - 108) + j = 20 + j by omega, ← t3]; exact hi _ _ (by omega)
        · rw [show 4 + 8 * ((111 : Int) - 108) + j = 28 + j by omega, ← t4]; exact hi _ _ (by omega)
      · unfold g_vR
        rw [if_neg (by omega), if_neg (by omega), if_neg (by omega), if_pos ⟨a, b⟩]
        obtain ⟨t1, t2, t3⟩ := ui.2.1 j x y
        have : z = 112 ∨ z = 113 ∨ z = 114 := by omega
        rcases this with e | e | e <;> rw [e]
        · rw [show 36 + 16 * ((112 : Int) - 112) + j = 36 + j by omega, ← t1]; exact hi _ _ (by omega)
        · rw [show 36 + 16 * ((113 : Int) - 112) + j = 52 + j by omega, ← t2]; exact hi _ _ (by omega)
        · rw [show 36 + 16 * ((114 : Int) - 112) + j = 68 + j by omega, ← t3]; exact hi _ _ (by omega)
      · unfold g_vR
        rw [if_neg (by omega), if_neg (by omega), if_neg (by omega), if_neg (by omega), if_pos rfl, ← ui.2.2 x a b]
        exact hi _ _ (by omega)
      · unfold g_vR
        have : i = 27 ∨ i = 28 ∨ i = 29 ∨ i = 30 := by omega
        rcases this with e | e | e | e <;> rw [e]
        · rw [if_pos (by omega), show (27 : Int) - 27 = 0 from rfl, u0]; exact hi _ _ (by omega)
        · rw [if_pos (by omega), show (28 : Int) - 27 = 1 from rfl, u1]; exact hi _ _ (by omega)
        · rw [if_pos (by omega), show (29 : Int) - 27 = 2 from rfl, u2]; exact hi _ _ (by omega)
        · rw [if_neg (by omega), if_pos (by omega), u3]; exact hi _ _ (by decide)
    · rw [ur 135 k' (by decide) (by decide)] at hk'
      refine g_FI_s ⟨a, b⟩ (im k' a b hk') (fun z i q => cc z i (by omega) (by omega)) (fun z i q => ur z i (by omega) (by omega))
  · have no : ¬ (0 ≤ k ∧ k ≤ 2) ∨ M 135 k = 0 := by omega
    have y1 := c_onNo (C := M) (k := k) (by
      rcases no with x | x
      · exact Or.inl x
      · by_cases c : 0 ≤ k ∧ k ≤ 2
        · right
          rw [(h.1.2.1.2.2.2.1 k c.1 (by omega)).1]
          exact x
        · exact Or.inl c)
    obtain ⟨-, rfl⟩ := g_some2 e1 y1
    obtain ⟨-, rfl⟩ := g_some2 e2 (r_onNo (R := gj_up M 78 0 (gj_w (M 78 0 + 1))) (k := k) (by rw [gj_up_z (by decide)]; exact no))
    exact g_FL_no h.2
