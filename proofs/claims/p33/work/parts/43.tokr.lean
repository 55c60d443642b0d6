/-! PURE: the reference's tokens -/
def g_RT (M : gj_M) : Prop := 0 ≤ M 79 2 ∧ M 79 2 ≤ 500
theorem p_between {M : gj_M} {k a b : Int} (h : g_RT M) (h0 : 0 ≤ k) : F_X12_between k a b M = some (if k < M 79 2 ∧ a ≤ M 81 k ∧ M 81 k ≤ b then 1 else 0) := by
  unfold F_X12_between
  have hn := h.2
  by_cases h1 : M 79 2 ≤ k
  · rw [if_pos h1, if_neg (by omega)]
  · rw [if_neg h1, gj_chkp (by omega)]
    by_cases h2 : M 81 k < a
    · rw [if_pos h2, if_neg (by omega)]
    · rw [if_neg h2, gj_chkp (by omega)]
      by_cases h3 : b < M 81 k
      · rw [if_pos h3, if_neg (by omega)]
      · rw [if_neg h3, if_pos (by omega)]
def g_nxd (M : gj_M) (s e : Int) : gj_M := gj_up (gj_up M 79 3 s) 79 4 e
theorem g_nxd_3 {M : gj_M} {s e : Int} : g_nxd M s e 79 3 = s := by unfold g_nxd; rw [gj_up_i (by decide), gj_up_eq]
theorem g_nxd_4 {M : gj_M} {s e : Int} : g_nxd M s e 79 4 = e := gj_up_eq
theorem g_nxd_i {M : gj_M} {s e z i : Int} (h : ¬ (z = 79 ∧ (i = 3 ∨ i = 4))) : g_nxd M s e z i = M z i := by
  unfold g_nxd gj_up
  rw [if_neg (by omega), if_neg (by omega)]
theorem g_nxd_z {M : gj_M} {s e z : Int} (h : z ≠ 79) : g_nxd M s e z = M z := funext fun i => g_nxd_i (by omega)
theorem p_X12_next {M : gj_M} (h : g_RT M) (h0 : 0 ≤ M 79 4) (h1 : M 79 4 ≤ M 79 2) : F_X12_next M = some (g_nxd M (g_sp (M 81) (M 79 2) (M 79 4)) (g_en (M 81) (M 79 2) (g_sp (M 81) (M 79 2) (M 79 4)))) := by
  obtain ⟨hn0, hn1⟩ := h
  have hs0 : 0 ≤ g_sp (M 81) (M 79 2) (M 79 4) := Int.le_trans h0 g_run_ge
  have hs1 : g_sp (M 81) (M 79 2) (M 79 4) ≤ M 79 2 := g_run_le h1
  have key : J_X12_next_60 (gj_up M 79 3 (g_sp (M 81) (M 79 2) (M 79 4))) = some (g_nxd M (g_sp (M 81) (M 79 2) (M 79 4)) (g_en (M 81) (M 79 2) (g_sp (M 81) (M 79 2) (M 79 4)))) := by
    generalize g_sp (M 81) (M 79 2) (M 79 4) = s at *
    have RT : ∀ e, g_RT (g_nxd M s e) := fun e => by unfold g_RT; rw [g_nxd_i (by decide)]; exact ⟨hn0, hn1⟩
    have e2 : ∀ e, g_nxd M s e 79 2 = M 79 2 := fun e => g_nxd_i (by decide)
    have e81 : ∀ e, g_nxd M s e 81 = M 81 := fun e => g_nxd_z (by decide)
    unfold J_X12_next_60
    dsimp only [gj_let]
    rw [show gj_up (gj_up M 79 3 s) 79 4 (gj_up M 79 3 s 79 3) = g_nxd M s s by rw [gj_up_eq]; rfl]
    simp only [g_nxd_3, e2]
    rw [p_between (RT s) hs0, p_between (RT s) hs0, e2, e81]
    dsimp only [gj_bnd]
    unfold g_en
    have step : ∀ e, gj_up (g_nxd M s e) 79 4 (e + 1) = g_nxd M s (e + 1) := fun e => gj_up_up
    by_cases hn : M 79 2 ≤ s
    · rw [if_neg (c := s < M 79 2 ∧ 97 ≤ M 81 s ∧ M 81 s ≤ 122) (by omega), if_pos rfl, if_neg (c := s < M 79 2 ∧ 48 ≤ M 81 s ∧ M 81 s ≤ 57) (by omega), if_pos rfl, if_pos hn, if_pos hn]
    · rw [if_neg (c := M 79 2 ≤ s) hn, if_neg hn]
      by_cases hl : g_le (M 81) s = true
      · have hl2 : 97 ≤ M 81 s ∧ M 81 s ≤ 122 := of_decide_eq_true hl
        rw [if_pos (c := s < M 79 2 ∧ 97 ≤ M 81 s ∧ M 81 s ≤ 122) (by omega), if_neg (by decide), if_pos hl, ← g_run_s (by omega) hl]
        refine gj_lpM0 (fun y => y = _) (fun N => ∃ e, N = g_nxd M s e ∧ s ≤ e ∧ e ≤ M 79 2 ∧ g_run (g_le (M 81)) (M 79 2) s = g_run (g_le (M 81)) (M 79 2) e) (fun N => (M 79 2 - N 79 4).toNat) ?_ gj_fu _ ⟨s, rfl, by omega, by omega, rfl⟩ ?_
        · rintro rec N ⟨e, rfl, h2, h3, h4⟩
          unfold B_X12_next_83
          rw [g_nxd_4, p_between (RT e) (by omega), e2, e81]
          dsimp only [gj_bnd, gj_let]
          by_cases h5 : e < M 79 2 ∧ 97 ≤ M 81 e ∧ M 81 e ≤ 122
          · rw [if_pos h5, if_neg (by decide), gj_wle (by omega) (by omega), step]
            exact Or.inl ⟨_, rfl, ⟨e + 1, rfl, by omega, by omega, by rw [h4]; exact g_run_s h5.1 (decide_eq_true h5.2)⟩, by rw [g_nxd_4]; omega⟩
          · rw [if_neg h5, if_pos rfl, h4, g_run_e (fun q => h5 ⟨q.1, of_decide_eq_true q.2⟩)]
            exact Or.inr rfl
        · rw [g_nxd_4]
          show _ < 2048
          omega
      · have hl2 : ¬ (97 ≤ M 81 s ∧ M 81 s ≤ 122) := fun q => hl (decide_eq_true q)
        rw [if_neg (c := s < M 79 2 ∧ 97 ≤ M 81 s ∧ M 81 s ≤ 122) (by omega), if_pos rfl, if_neg hl]
        by_cases hd : g_di (M 81) s = true
        · have hd2 : 48 ≤ M 81 s ∧ M 81 s ≤ 57 := of_decide_eq_true hd
          rw [if_pos (c := s < M 79 2 ∧ 48 ≤ M 81 s ∧ M 81 s ≤ 57) (by omega), if_neg (by decide), if_pos hd, ← g_run_s (by omega) hd]
          refine gj_lpM0 (fun y => y = _) (fun N => ∃ e, N = g_nxd M s e ∧ s ≤ e ∧ e ≤ M 79 2 ∧ g_run (g_di (M 81)) (M 79 2) s = g_run (g_di (M 81)) (M 79 2) e) (fun N => (M 79 2 - N 79 4).toNat) ?_ gj_fu _ ⟨s, rfl, by omega, by omega, rfl⟩ ?_
          · rintro rec N ⟨e, rfl, h2, h3, h4⟩
            unfold B_X12_next_126
            rw [g_nxd_4, p_between (RT e) (by omega), e2, e81]
            dsimp only [gj_bnd, gj_let]
            by_cases h5 : e < M 79 2 ∧ 48 ≤ M 81 e ∧ M 81 e ≤ 57
            · rw [if_pos h5, if_neg (by decide), gj_wle (by omega) (by omega), step]
              exact Or.inl ⟨_, rfl, ⟨e + 1, rfl, by omega, by omega, by rw [h4]; exact g_run_s h5.1 (decide_eq_true h5.2)⟩, by rw [g_nxd_4]; omega⟩
            · rw [if_neg h5, if_pos rfl, h4, g_run_e (fun q => h5 ⟨q.1, of_decide_eq_true q.2⟩)]
              exact Or.inr rfl
          · rw [g_nxd_4]
            show _ < 2048
            omega
        · have hd2 : ¬ (48 ≤ M 81 s ∧ M 81 s ≤ 57) := fun q => hd (decide_eq_true q)
          rw [if_neg (c := s < M 79 2 ∧ 48 ≤ M 81 s ∧ M 81 s ≤ 57) (by omega), if_pos rfl, if_neg hd, g_nxd_4, gj_wle (by omega) (by omega), step]
  unfold F_X12_next
  dsimp only [gj_let]
  refine gj_lpM0 (fun y => y = _) (fun N => ∃ s, N = gj_up M 79 3 s ∧ M 79 4 ≤ s ∧ s ≤ M 79 2 ∧ g_sp (M 81) (M 79 2) (M 79 4) = g_sp (M 81) (M 79 2) s) (fun N => (M 79 2 - N 79 3).toNat) ?_ gj_fu _ ⟨M 79 4, rfl, by omega, by omega, rfl⟩ ?_
  · rintro rec N ⟨s, rfl, h2, h3, h4⟩
    unfold B_X12_next_8
    dsimp only [gj_let]
    rw [show gj_up M 79 3 s 79 3 = s from gj_up_eq, show gj_up M 79 3 s 79 2 = M 79 2 from gj_up_i (by decide), show gj_up M 79 3 s 81 s = M 81 s from gj_up_z (by decide)]
    by_cases h5 : M 79 2 ≤ s
    · rw [if_pos h5]
      have : g_sp (M 81) (M 79 2) (M 79 4) = s := by rw [h4]; exact g_run_e (by omega)
      rw [← this]
      exact Or.inr key
    · rw [if_neg h5, gj_chkp (by omega), gj_chkp (by omega), gj_wle (by omega) (by omega), gj_up_up]
      have fin : ¬ (M 81 s = 32 ∨ M 81 s = 10) → g_sp (M 81) (M 79 2) (M 79 4) = s := fun q => by rw [h4]; exact g_run_e (fun w => q (of_decide_eq_true w.2))
      have go : (M 81 s = 32 ∨ M 81 s = 10) → g_sp (M 81) (M 79 2) (M 79 4) = g_sp (M 81) (M 79 2) (s + 1) := fun q => by rw [h4]; exact g_run_s (by omega) (decide_eq_true q)
      by_cases h6 : M 81 s = 32
      · rw [if_pos h6]
        exact Or.inl ⟨_, rfl, ⟨s + 1, rfl, by omega, by omega, go (Or.inl h6)⟩, by rw [gj_up_eq]; omega⟩
      · rw [if_neg h6]
        by_cases h7 : M 81 s = 10
        · rw [if_pos h7]
          exact Or.inl ⟨_, rfl, ⟨s + 1, rfl, by omega, by omega, go (Or.inr h7)⟩, by rw [gj_up_eq]; omega⟩
        · rw [if_neg h7, ← fin (by omega)]
          exact Or.inr key
  · rw [gj_up_eq]
    show _ < 2048
    omega
