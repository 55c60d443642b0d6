/-! PURE: who is meant, side by side -/
def g_VS (C R : gj_M) : Prop := (R 79 18 = 0 ∧ C 14 0 = 0 ∧ C 14 1 = 0) ∨ (R 79 18 = 1 ∧ g_PL C R)
theorem p_who {C R : gj_M} {a : Int} (h : g_VS C R) : ∃ s, f_X5_slotOf a C = s ∧ F_X12_who a R = some s ∧ (s = -1 ∨ (0 ≤ s ∧ s < 8 ∧ g_pe C 14 s ∧ R 79 18 = 1 ∧ g_PL C R)) := by
  unfold F_X12_who f_X12_in
  dsimp only [gj_letI]
  unfold J_X12_who_38 f_X5_slotOf
  rcases h with ⟨h18, c0, c1⟩ | ⟨h18, hp⟩
  · refine ⟨-1, ?_, ?_, Or.inl rfl⟩
    · rw [c0, c1, gj_wle (x := 10 + 0) (by decide) (by decide)]
      (repeat' split) <;> omega
    · rw [if_pos h18, if_pos h18, if_pos h18]
      (repeat' split) <;> rfl
  · have b0 := hp.b0
    have b1 := hp.b1
    have n0 := hp.n0
    have n1 := hp.n1
    have h18' : ¬ R 79 18 = 0 := by omega
    rw [if_neg h18', if_neg h18', if_neg h18', gj_wle (x := 10 + C 14 1) (by omega) (by omega)]
    have bad : (if (-1 : Int) = -1 then some (-1) else gj_chk (0 ≤ gj_w (Int.tdiv (-1) 4) ∧ gj_w (Int.tdiv (-1) 4) < 2) (if R 101 (gj_w (Int.tdiv (-1) 4)) ≤ Int.tmod (-1) 4 then some (-1) else some (-1))) = some (-1) := if_pos rfl
    by_cases hl : 0 ≤ a ∧ a ≤ 3
    · rw [if_neg (show ¬ a < 0 by omega), if_neg (show ¬ a < 0 by omega), if_neg (show ¬ 3 < a by omega), if_neg (show ¬ (1 : Int) = 0 by decide), if_neg (show ¬ a = -1 by omega), g_tdiv hl.1, g_tmod hl.1, gj_wle (x := a / 4) (by omega) (by omega), gj_chkp (by omega), show a / 4 = 0 by omega, show a % 4 = a by omega, ← n0]
      by_cases q : C 14 0 ≤ a
      · rw [if_pos q, if_pos q, if_pos (show a < 10 by omega)]
        exact ⟨-1, rfl, rfl, Or.inl rfl⟩
      · rw [if_neg q, if_neg q]
        exact ⟨a, rfl, rfl, Or.inr ⟨hl.1, by omega, Or.inl ⟨by omega, by omega⟩, h18, hp⟩⟩
    · have e0 : (if a < 0 then (0 : Int) else if 3 < a then 0 else 1) = 0 := by (repeat' split) <;> omega
      rw [e0, if_pos rfl]
      by_cases hr : 10 ≤ a ∧ a ≤ 13
      · have e1 : (if a < 10 then (0 : Int) else if 13 < a then 0 else 1) = 1 := by (repeat' split) <;> omega
        rw [e1, if_neg (show ¬ (1 : Int) = 0 by decide), gj_wle (x := a - 6) (by omega) (by omega), if_neg (show ¬ a - 6 = -1 by omega), g_tdiv (show 0 ≤ a - 6 by omega), g_tmod (show 0 ≤ a - 6 by omega), gj_wle (x := (a - 6) / 4) (by omega) (by omega), gj_chkp (by omega), show (a - 6) / 4 = 1 by omega, show (a - 6) % 4 = a - 10 by omega, ← n1, if_neg (show ¬ a < 0 by omega), if_pos (show C 14 0 ≤ a by omega), if_neg (show ¬ a < 10 by omega), gj_wle (x := a - 10) (by omega) (by omega), gj_wle (x := a - 10 + 4) (by omega) (by omega)]
        by_cases q : 10 + C 14 1 ≤ a
        · rw [if_pos q, if_pos (show C 14 1 ≤ a - 10 by omega)]
          exact ⟨-1, rfl, rfl, Or.inl rfl⟩
        · rw [if_neg q, if_neg (show ¬ C 14 1 ≤ a - 10 by omega)]
          exact ⟨a - 6, by omega, rfl, Or.inr ⟨by omega, by omega, Or.inr ⟨by omega, by omega⟩, h18, hp⟩⟩
      · have e1 : (if a < 10 then (0 : Int) else if 13 < a then 0 else 1) = 0 := by (repeat' split) <;> omega
        rw [e1, if_pos rfl]
        refine ⟨-1, ?_, if_pos rfl, Or.inl rfl⟩
        (repeat' split) <;> omega
