/-! PURE: the liking told alike -/
theorem p_shownGood {C R : gj_M} {j g p : Int} (hp : g_PL C R) (hj : 0 ≤ j ∧ j < 32) (hk : g_K g p) : f_X5_shownGood j g p C = g_sh (R 86 j) (R 89 j) (R 92 j) g p := by
  have v := hp.vw j hj.1 hj.2
  unfold f_X5_shownGood
  obtain ⟨⟨g0, g4⟩, p0, p4⟩ := hk
  rw [gj_wle (x := j * 5) (by omega) (by omega), gj_wle (x := j * 5 + g) (by omega) (by omega), gj_wle (x := (j * 5 + g) * 5) (by omega) (by omega), gj_wle (x := (j * 5 + g) * 5 + p) (by omega) (by omega), f_at_in (by omega), hp.st _ (by omega) (by omega)]
  unfold g_st
  rw [show ((j * 5 + g) * 5 + p) / 25 = j by omega, show ((j * 5 + g) * 5 + p) / 5 % 5 = g by omega, show ((j * 5 + g) * 5 + p) % 5 = p by omega, v.1, v.2.1, v.2.2.1]
/-- the liking of the places s and q, as it is now -/
theorem p_likesNow {C R : gj_M} {s q : Int} (hp : g_PL C R) (y : g_YS C R) (s8 : 0 ≤ s ∧ s < 8) (q8 : 0 ≤ q ∧ q < 8) (u : ¬ (s < 4 ↔ q < 4)) : F_X12_likesNow s q R = some (f_X2_likingOf s q 1 C) := by
  obtain ⟨t1, hi⟩ := p_twoOf (M := R) s8 q8 u
  have n := y.nw (f_cpl s q) hi.1 hi.2
  have hj : 0 ≤ 4 * s + q % 4 ∧ 4 * s + q % 4 < 32 := by omega
  have v := hp.vw _ hj.1 hj.2
  have hk : g_K (R 112 (f_cpl s q)) (R 113 (f_cpl s q)) := by rw [← n.1, ← n.2.1]; exact n.2.2.2
  have h0 := (hp.hd 0 (by decide) (by decide)).1
  have h1 := (hp.hd 1 (by decide) (by decide)).1
  have h5 := (hp.hd 5 (by decide) (by decide)).1
  change C 14 2 = R 98 0 at h0
  change C 14 3 = R 98 1 at h1
  change C 14 7 = R 98 5 at h5
  unfold F_X12_likesNow f_X2_likingOf J_X2_likingOf_27 J_X2_likingOf_49 f_X5_gain F_X12_likes
  dsimp only [gj_letI]
  rw [if_neg (show ¬ (1 : Int) = 0 by decide), if_neg (show ¬ (1 : Int) = 0 by decide), t1, gj_chkp hi, gj_chkp hi, f_at_in hi, f_at_in hi, f_at_in hi, n.1, n.2.1, n.2.2.1, p_X12_shows s8 q8 (by rw [← v.1, ← v.2.1, ← v.2.2.1]; exact v.2.2.2) hk, gj_bnd_s, if_neg (show ¬ (1 : Int) = 0 by decide), p_vw s8 q8, p_shownGood hp hj hk, gj_chkp hi, gj_bnd_s, h0, h1, h5]
theorem p_likingOf {C R : gj_M} {a b : Int} (h : g_VS C R) (hy : R 79 18 = 1 → g_YS C R) : F_X12_liking a b R = some (f_X11_liking a b C) := by
  obtain ⟨s, e1, e2, e3⟩ := p_who (a := a) h
  obtain ⟨q, f1, f2, f3⟩ := p_who (a := b) h
  have hs : s = -1 ∨ (0 ≤ s ∧ s < 8) := by omega
  have hq : q = -1 ∨ (0 ≤ q ∧ q < 8) := by omega
  unfold F_X12_liking f_X11_liking
  dsimp only [gj_letI]
  rw [e1, e2, f1, f2, gj_bnd_s, gj_bnd_s, p_areTwo hs hq]
  by_cases c : f_unl s q = 0
  · rw [if_pos c, if_pos c]
  · have u := g_unl_in c
    have hp : R 79 18 = 1 ∧ g_PL C R := by
      rcases e3 with e | e
      · exact absurd e u.1
      · exact e.2.2.2
    rw [if_neg c, if_neg c, p_likesNow hp.2 (hy hp.1) (by omega) (by omega) u.2.2, gj_bnd_s]
