/-! PURE: count, side by side -/
theorem p_count {C R : gj_M} {a : Int} (h : g_VS C R) (ht : g_TX C R) (hy : R 79 18 = 1 → C 21 0 = R 79 27 ∧ C 21 1 = R 79 28) : f_X11_count a C = f_X12_count a R := by
  have t := ht.1
  unfold f_X11_count f_X12_count f_X5_stands_14 f_X9_length
  dsimp only [gj_letI]
  rcases h with ⟨h18, c0, c1⟩ | ⟨h18, hp⟩
  · rw [if_pos (show C 14 0 ≤ 0 by omega)]
    simp only [h18, c0, c1, t, if_true]
  · have b0 := hp.b0
    have b1 := hp.b1
    have h7 := (hp.hd 7 (by decide) (by decide)).1
    change C 14 9 = R 98 7 at h7
    have y := hy h18
    rw [if_neg (show ¬ C 14 0 ≤ 0 by omega), if_neg (show ¬ C 14 1 ≤ 0 by omega)]
    simp only [h18, hp.n0, hp.n1, h7, y.1, y.2, t, if_neg (show ¬ (1 : Int) = 0 by decide)]
