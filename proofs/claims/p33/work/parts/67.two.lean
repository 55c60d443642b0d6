/-! PURE: what is told of two, side by side -/
theorem p_twoOf {s q : Int} {M : gj_M} (hs : 0 ≤ s ∧ s < 8) (hq : 0 ≤ q ∧ q < 8) (h : ¬ (s < 4 ↔ q < 4)) : f_X12_two s q M = f_cpl s q ∧ 0 ≤ f_cpl s q ∧ f_cpl s q < 16 := by
  unfold f_X12_two f_cpl
  by_cases c : s < 4
  · rw [if_neg (show ¬ 4 ≤ s by omega), if_pos (show s < q by omega), gj_wle (x := 4 * s) (by omega) (by omega), gj_wle (x := 4 * s + q) (by omega) (by omega), gj_wle (x := 4 * s + q - 4) (by omega) (by omega), gj_wle (x := s * 4) (by omega) (by omega), gj_wle (x := s * 4 + q) (by omega) (by omega), gj_wle (x := s * 4 + q - 4) (by omega) (by omega)]
    omega
  · rw [if_pos (show 4 ≤ s by omega), if_neg (show ¬ s < q by omega), gj_wle (x := 4 * q) (by omega) (by omega), gj_wle (x := 4 * q + s) (by omega) (by omega), gj_wle (x := 4 * q + s - 4) (by omega) (by omega), gj_wle (x := q * 4) (by omega) (by omega), gj_wle (x := q * 4 + s) (by omega) (by omega), gj_wle (x := q * 4 + s - 4) (by omega) (by omega)]
    omega
theorem p_toldTwo {C R : gj_M} {a b k : Int} (h : g_VS C R) (hy : R 79 18 = 1 → g_YS C R) : F_X12_two_ a b k R = some (f_X11_two a b k C) := by
  obtain ⟨s, e1, e2, e3⟩ := p_who (a := a) h
  obtain ⟨q, f1, f2, f3⟩ := p_who (a := b) h
  have hs : s = -1 ∨ (0 ≤ s ∧ s < 8) := by omega
  have hq : q = -1 ∨ (0 ≤ q ∧ q < 8) := by omega
  unfold F_X12_two_ f_X11_two
  dsimp only [gj_letI]
  rw [e1, e2, f1, f2, gj_bnd_s, gj_bnd_s, p_areTwo hs hq]
  by_cases c : f_unl s q = 0
  · rw [if_pos c, if_pos c]
  · have u := g_unl_in c
    have s8 : 0 ≤ s ∧ s < 8 := by omega
    have q8 : 0 ≤ q ∧ q < 8 := by omega
    have hp : R 79 18 = 1 ∧ g_PL C R := by
      rcases e3 with e | e
      · exact absurd e u.1
      · exact e.2.2.2
    have y := hy hp.1
    have mt := y.mt s s8.1 s8.2
    have ys := y.ys s s8.1 s8.2
    obtain ⟨t1, hi⟩ := p_twoOf (M := R) s8 q8 u.2.2
    unfold f_X3_arePair
    rw [if_neg c, if_neg c, t1]
    generalize f_cpl s q = i at *
    have v := y.nw i hi.1 hi.2
    rw [gj_chkp hi, gj_chkp hi, gj_chkp hi, gj_chkp hi, gj_chkp s8, gj_chkp s8, f_at_in hi, f_at_in hi, f_at_in hi, f_at_in hi, f_at_in s8, f_at_in s8, v.1, v.2.1, v.2.2.1, (hp.2.ft i hi.1 hi.2).1, if_neg u.1, if_neg u.2.1, mt.1]
    by_cases m : R 108 s = q
    · rw [if_pos m, if_pos m, if_neg (show ¬ (1 : Int) = 0 by decide), ys (by rw [m]; exact u.2.1)]
      (repeat' split) <;> rfl
    · rw [if_neg m, if_neg m, if_pos rfl]
      (repeat' split) <;> rfl
theorem p_shownOf {C R : gj_M} {a b k : Int} (h : g_VS C R) (hy : R 79 18 = 1 → g_YS C R) : ∃ x, F_X12_shown a b k R = some x ∧ F_X11_shown a b k C = some x := by
  obtain ⟨s, e1, e2, e3⟩ := p_who (a := a) h
  obtain ⟨q, f1, f2, f3⟩ := p_who (a := b) h
  have hs : s = -1 ∨ (0 ≤ s ∧ s < 8) := by omega
  have hq : q = -1 ∨ (0 ≤ q ∧ q < 8) := by omega
  unfold F_X12_shown F_X11_shown
  dsimp only [gj_letI]
  rw [e1, e2, f1, f2, gj_bnd_s, gj_bnd_s, p_areTwo hs hq]
  by_cases c : f_unl s q = 0
  · rw [if_pos c, if_pos c]
    exact ⟨_, rfl, rfl⟩
  · have u := g_unl_in c
    have s8 : 0 ≤ s ∧ s < 8 := by omega
    have q8 : 0 ≤ q ∧ q < 8 := by omega
    have hp : R 79 18 = 1 ∧ g_PL C R := by
      rcases e3 with e | e
      · exact absurd e u.1
      · exact e.2.2.2
    have y := hy hp.1
    obtain ⟨t1, hi⟩ := p_twoOf (M := R) s8 q8 u.2.2
    have n := y.nw (f_cpl s q) hi.1 hi.2
    have hj : 0 ≤ 4 * s + q % 4 ∧ 4 * s + q % 4 < 32 := by omega
    have v := hp.2.vw _ hj.1 hj.2
    have hk : g_K (R 112 (f_cpl s q)) (R 113 (f_cpl s q)) := by rw [← n.1, ← n.2.1]; exact n.2.2.2
    rw [if_neg c, if_neg c, t1, gj_chkp hi, gj_chkp hi, f_at_in hi, f_at_in hi, n.1, n.2.1, p_X12_shows s8 q8 (by rw [← v.1, ← v.2.1, ← v.2.2.1]; exact v.2.2.2) hk, p_vw s8 q8, p_X5_shownRight hj v.2.2.2 hk, gj_bnd_s, gj_bnd_s, v.1, v.2.1, v.2.2.1]
    unfold f_X12_in
    by_cases k0 : k = 0
    · rw [if_neg (show ¬ k < 0 by omega), if_neg (show ¬ 1 < k by omega), if_neg (show ¬ (1 : Int) = 0 by decide), if_pos k0, if_pos k0]
      exact ⟨_, rfl, rfl⟩
    · by_cases k1 : k = 1
      · rw [if_neg (show ¬ k < 0 by omega), if_neg (show ¬ 1 < k by omega), if_neg (show ¬ (1 : Int) = 0 by decide), if_neg k0, if_neg k0, if_pos k1]
        refine ⟨_, rfl, ?_⟩
        unfold f_X5_shownGood
        generalize f_cpl s q = i at *
        generalize 4 * s + q % 4 = j at *
        obtain ⟨⟨g0, g4⟩, p0, p4⟩ := hk
        generalize R 112 i = g at *
        generalize R 113 i = p at *
        rw [gj_wle (x := j * 5) (by omega) (by omega), gj_wle (x := j * 5 + g) (by omega) (by omega), gj_wle (x := (j * 5 + g) * 5) (by omega) (by omega), gj_wle (x := (j * 5 + g) * 5 + p) (by omega) (by omega), f_at_in (by omega), hp.2.st _ (by omega) (by omega)]
        unfold g_st
        rw [show ((j * 5 + g) * 5 + p) / 25 = j by omega, show ((j * 5 + g) * 5 + p) / 5 % 5 = g by omega, show ((j * 5 + g) * 5 + p) % 5 = p by omega, v.1, v.2.1, v.2.2.1]
      · rw [if_neg k0, if_neg k1]
        refine ⟨-1, ?_, if_neg k0⟩
        rw [if_pos (show (if k < 0 then (0 : Int) else if 1 < k then 0 else 1) = 0 by (repeat' split) <;> omega)]
