/-! PURE: status, side by side -/
theorem p_status {C R : gj_M} {a : Int} (hr : g_RF C R) : F_X11_status a C = F_X12_status a R := by
  unfold F_X11_status F_X12_status f_X12_in
  dsimp only [gj_letI]
  by_cases c : a < 0
  · rw [if_pos c, if_pos c, if_pos rfl]
  · rw [if_neg c, if_neg c]
    by_cases d : a < 3
    · rw [if_pos d, if_neg (show ¬ 2 < a by omega), if_neg (show ¬ (1 : Int) = 0 by decide), gj_chkp (by omega), gj_chkp (by omega), hr a (by omega) d]
    · rw [if_neg d, if_pos (show 2 < a by omega), if_pos rfl]
