/-! PURE: a new village in the class -/
theorem p_yearSum0 {M : gj_M} {z n : Int} : ∃ x, F_X5_yearSum z n M = some x := by
  unfold F_X5_yearSum
  refine gj_lpQ2 (fun y => ∃ x, y = some x) (fun _ k => 0 ≤ k ∧ k ≤ 8) (fun _ k => (8 - k).toNat) ?_ gj_fu 0 0 ⟨by omega, by omega⟩ (by show _ < 2048; omega)
  rintro rec x k ⟨k0, k1⟩
  unfold B_X5_yearSum_4 J_X5_yearSum_31
  by_cases hk : 8 ≤ k
  · rw [if_pos hk]
    exact Or.inr ⟨x, rfl⟩
  · dsimp only [gj_letI]
    rw [if_neg hk, gj_wle (x := k + 1) (by omega) (by omega)]
    left
    by_cases q : f_X5_isPerson_14 k M = 0
    · rw [if_pos q]
      exact ⟨_, _, rfl, ⟨by omega, by omega⟩, by omega⟩
    · rw [if_neg q]
      exact ⟨_, _, rfl, ⟨by omega, by omega⟩, by omega⟩
theorem f_put_z {M : gj_M} {z n i v w : Int} (h : w ≠ z) : f_put M z n i v w = M w := by
  unfold f_put
  split
  · exact funext fun _ => gj_up_z h
  · rfl
theorem p_spread0 {M : gj_M} {a : Int} : ∃ x N, F_X0_spread a M = some (x, N) ∧ ∀ z, z ≠ 42 → N z = M z := by
  unfold F_X0_spread
  rw [gj_let_s]
  refine gj_lpM2 (fun y => ∃ (x : Int) (N : gj_M), y = some (x, N) ∧ ∀ z, z ≠ 42 → N z = M z) (fun _ k N => -1 ≤ k ∧ k ≤ 3 ∧ ∀ z, z ≠ 42 → N z = M z) (fun _ k => (k + 1).toNat) ?_ gj_fu a 3 _ ⟨by omega, by omega, fun z hz => funext fun _ => f_fill_z hz⟩ (by show _ < 2048; omega)
  rintro rec l k N ⟨k0, k1, hN⟩
  unfold B_X0_spread_12
  by_cases hk : k < 0
  · rw [if_pos hk]
    exact Or.inr ⟨1, N, rfl, hN⟩
  · dsimp only [gj_letI, gj_let]
    rw [if_neg hk, gj_wle (x := k + -1) (by omega) (by omega)]
    split
    · exact Or.inl ⟨_, _, N, rfl, ⟨by omega, by omega, hN⟩, by omega⟩
    · split
      · exact Or.inr ⟨0, N, rfl, hN⟩
      · split
        · exact Or.inr ⟨0, N, rfl, hN⟩
        · split
          · exact Or.inl ⟨_, _, _, rfl, ⟨by omega, by omega, fun z hz => by rw [f_put_z hz, f_put_z hz]; exact hN z hz⟩, by omega⟩
          · exact Or.inr ⟨0, N, rfl, hN⟩
theorem p_choose0 {M : gj_M} : ∃ N, F_X0_choose M = some N ∧ ∀ z, z ≠ 42 ∧ z ≠ 43 → N z = M z := by
  unfold F_X0_choose
  refine gj_lpM2 (fun y => ∃ N : gj_M, y = some N ∧ ∀ z, z ≠ 42 ∧ z ≠ 43 → N z = M z) (fun _ k N => 0 ≤ k ∧ k ≤ 625 ∧ ∀ z, z ≠ 42 ∧ z ≠ 43 → N z = M z) (fun _ k => (625 - k).toNat) ?_ gj_fu (-1) 0 M ⟨by omega, by omega, fun z _ => rfl⟩ (by show _ < 2048; omega)
  rintro rec l k N ⟨k0, k1, hN⟩
  unfold B_X0_choose_4 J_X0_choose_49
  by_cases hk : 625 ≤ k
  · rw [if_pos hk]
    exact Or.inr ⟨N, rfl, hN⟩
  · obtain ⟨x, A, e, hA⟩ := p_spread0 (M := N) (a := k)
    obtain ⟨s, es⟩ := p_yearSum0 (M := A) (z := 42) (n := 8)
    rw [if_neg hk, e, gj_bnd2_s, gj_wle (x := k + 1) (by omega) (by omega)]
    have hA2 : ∀ z, z ≠ 42 ∧ z ≠ 43 → A z = M z := fun z hz => (hA z hz.1).trans (hN z hz)
    split
    · exact Or.inl ⟨_, _, A, rfl, ⟨by omega, by omega, hA2⟩, by omega⟩
    · rw [es, gj_bnd_s]
      split
      · exact Or.inl ⟨_, _, A, rfl, ⟨by omega, by omega, hA2⟩, by omega⟩
      · refine Or.inl ⟨_, _, _, rfl, ⟨by omega, by omega, fun z hz => ?_⟩, by omega⟩
        funext i
        rw [f_copy_z hz.2]
        exact congrFun (hA2 z hz) i
theorem g_begin_z {M : gj_M} {z : Int} (h : z < 21 ∨ 29 < z) : f_X3_begin M z = M z := by
  unfold f_X3_begin f_X1_clear
  simp only [gj_let_s]
  funext i
  rw [gj_up_z (by omega), gj_up_z (by omega), f_fill_z (by omega), f_fill_z (by omega), f_fill_z (by omega), f_fill_z (by omega), f_fill_z (by omega), f_fill_z (by omega), f_fill_z (by omega), gj_up_z (by omega), gj_up_z (by omega), gj_up_z (by omega)]
theorem g_begin_v {M : gj_M} : f_X3_begin M 21 0 = 0 ∧ f_X3_begin M 21 1 = 0 ∧ f_X3_begin M 21 2 = 0 ∧ f_X3_begin M 29 1 = 0 ∧ f_X3_begin M 29 2 = 0 := by
  unfold f_X3_begin f_X1_clear
  simp only [gj_let_s]
  refine ⟨?_, ?_, ?_, ?_, ?_⟩ <;> simp [gj_up, f_fill]
theorem g_begin_8 {M : gj_M} {i : Int} (a : 0 ≤ i) : (i < 8 → f_X3_begin M 22 i = (-1) ∧ f_X3_begin M 23 i = 0 ∧ f_X3_begin M 24 i = 0 ∧ f_X3_begin M 25 i = 0) ∧ (i < 16 → f_X3_begin M 26 i = 0 ∧ f_X3_begin M 27 i = 0 ∧ f_X3_begin M 28 i = 0) := by
  unfold f_X3_begin f_X1_clear
  simp only [gj_let_s]
  refine ⟨fun b => ⟨?_, ?_, ?_, ?_⟩, fun b => ⟨?_, ?_, ?_⟩⟩ <;> simp [gj_up, f_fill, a, b]
/-- the class behind a taken village -/
def g_V1 (M : gj_M) : gj_M := f_X9_cutTo 0 (f_fill (f_X3_begin M) 77 3 0)
theorem p_village_C {C D : gj_M} (h : F_X6_read C = some (-1, D)) {N : gj_M} (ht : F_X5_take D = some N) : ∃ A, (∀ z, z ≠ 42 ∧ z ≠ 43 → A z = N z) ∧ F_X0_choose N = some A ∧ F_X11_village C = some (gj_w (g_V1 A 14 0 + g_V1 A 14 1), g_V1 A) := by
  obtain ⟨A, e, hA⟩ := p_choose0 (M := N)
  refine ⟨A, hA, e, ?_⟩
  unfold F_X11_village
  rw [h, gj_bnd2_s, if_pos rfl, ht, gj_bnd_s, e, gj_bnd_s, gj_let_s, gj_let_s, gj_let_s]
  rfl
theorem g_V1_z {M : gj_M} {z : Int} (h : z ≠ 1 ∧ z ≠ 77) : g_V1 M z = f_X3_begin M z := by
  unfold g_V1 f_X9_cutTo
  simp only [gj_let_s]
  funext i
  (repeat' split)
  · exact f_fill_z h.2
  · exact f_fill_z h.2
  · rw [gj_up_z h.1, f_fill_z h.2]
theorem g_V1_1 {M : gj_M} (h : 0 ≤ M 1 1) : g_V1 M 1 1 = 0 := by
  unfold g_V1 f_X9_cutTo
  have e : f_fill (f_X3_begin M) 77 3 0 1 1 = M 1 1 := by
    rw [f_fill_z (by decide), g_begin_z (by decide)]
  rw [if_neg (by decide), e, if_neg (by omega), gj_let_s, gj_up_eq]
theorem g_V1_77 {M : gj_M} {j : Int} (a : 0 ≤ j) (b : j < 3) : g_V1 M 77 j = 0 := by
  unfold g_V1 f_X9_cutTo
  simp only [gj_let_s]
  (repeat' split)
  · exact f_fill_in ⟨a, b⟩
  · exact f_fill_in ⟨a, b⟩
  · rw [gj_up_z (by decide)]; exact f_fill_in ⟨a, b⟩
