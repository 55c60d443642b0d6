/-! PURE: what is told of persons, side by side -/
def g_YS (C R : gj_M) : Prop :=
  (∀ j, 0 ≤ j → j < 8 → C 22 j = R 108 j ∧ (R 108 j = -1 ∨ (0 ≤ R 108 j ∧ R 108 j < 8 ∧ (j < 4 ↔ ¬ R 108 j < 4))))
  ∧ (∀ j, 0 ≤ j → j < 8 → C 23 j = if R 108 j = -1 then 0 else R 109 j)
  ∧ (∀ j, 0 ≤ j → j < 8 → R 108 j ≠ -1 → C 24 j = R 110 j)
  ∧ (∀ j, 0 ≤ j → j < 8 → C 25 j = R 111 j)
  ∧ (∀ j, 0 ≤ j → j < 16 → C 26 j = R 112 j ∧ C 27 j = R 113 j ∧ C 28 j = R 114 j ∧ g_K (C 26 j) (C 27 j))
theorem g_YS.mt {C R : gj_M} (h : g_YS C R) : (∀ j, 0 ≤ j → j < 8 → C 22 j = R 108 j ∧ (R 108 j = -1 ∨ (0 ≤ R 108 j ∧ R 108 j < 8 ∧ (j < 4 ↔ ¬ R 108 j < 4)))) := h.1
theorem g_YS.yr {C R : gj_M} (h : g_YS C R) : (∀ j, 0 ≤ j → j < 8 → C 23 j = if R 108 j = -1 then 0 else R 109 j) := h.2.1
theorem g_YS.ys {C R : gj_M} (h : g_YS C R) : (∀ j, 0 ≤ j → j < 8 → R 108 j ≠ -1 → C 24 j = R 110 j) := h.2.2.1
theorem g_YS.er {C R : gj_M} (h : g_YS C R) : (∀ j, 0 ≤ j → j < 8 → C 25 j = R 111 j) := h.2.2.2.1
theorem g_YS.nw {C R : gj_M} (h : g_YS C R) : (∀ j, 0 ≤ j → j < 16 → C 26 j = R 112 j ∧ C 27 j = R 113 j ∧ C 28 j = R 114 j ∧ g_K (C 26 j) (C 27 j)) := h.2.2.2.2
theorem p_earned {C R : gj_M} {a : Int} (h : g_VS C R) (hy : R 79 18 = 1 → g_YS C R) : F_X12_earned a R = some (f_X11_earned a C) := by
  obtain ⟨s, e1, e2, e3⟩ := p_who (a := a) h
  unfold F_X12_earned f_X11_earned
  dsimp only [gj_letI]
  rw [e1, e2, gj_bnd_s]
  rcases e3 with e | ⟨s0, s8, -, h1, -⟩
  · rw [if_pos e, if_pos e]
  · rw [if_neg (show ¬ s = -1 by omega), if_neg (show ¬ s = -1 by omega), gj_chkp ⟨s0, s8⟩, f_at_in ⟨s0, s8⟩, (hy h1).er s s0 s8]
theorem p_personOf {C R : gj_M} {a b : Int} (h : g_VS C R) (hy : R 79 18 = 1 → g_YS C R) : F_X12_person a b R = some (f_X11_person a b C) := by
  obtain ⟨s, e1, e2, e3⟩ := p_who (a := a) h
  unfold F_X12_person f_X11_person
  dsimp only [gj_letI]
  rw [e1, e2, gj_bnd_s]
  rcases e3 with e | ⟨s0, s8, pe, h1, hp⟩
  · rw [if_pos e, if_pos e]
  · have y := hy h1
    have mt := y.mt s s0 s8
    rw [if_neg (show ¬ s = -1 by omega), if_neg (show ¬ s = -1 by omega), gj_chkp ⟨s0, s8⟩, gj_chkp ⟨s0, s8⟩, gj_chkp ⟨s0, s8⟩, gj_chkp ⟨s0, s8⟩, gj_chkp ⟨s0, s8⟩, f_at_in ⟨s0, s8⟩, f_at_in ⟨s0, s8⟩, f_at_in ⟨s0, s8⟩, (hp.al s s0 s8 pe).1, y.yr s s0 s8, mt.1]
    by_cases b0 : b = 0
    · rw [if_pos b0, if_pos b0]
    rw [if_neg b0, if_neg b0]
    by_cases b1 : b = 1
    · rw [if_pos b1, if_pos b1]
      by_cases m : R 108 s = -1
      · rw [if_pos m, m]
        rfl
      · rw [if_neg m]
        unfold f_X12_told f_num
        congr 1
        by_cases m4 : R 108 s < 4
        · rw [if_neg (by omega), if_pos m4]
        · rw [if_pos (by omega), if_neg m4, gj_wle (x := R 108 s + 6) (by omega) (by omega), gj_wle (x := R 108 s - 4) (by omega) (by omega), gj_wle (by omega) (by omega)]
          omega
    rw [if_neg b1, if_neg b1]
    by_cases b2 : b = 2
    · rw [if_pos b2, if_pos b2]
      by_cases m : R 108 s = -1
      · rw [if_pos m, if_pos m]
      · rw [if_neg m, if_neg m]
    · rw [if_neg b2, if_neg b2]
theorem p_areTwo {s q : Int} {M : gj_M} (hs : s = -1 ∨ (0 ≤ s ∧ s < 8)) (hq : q = -1 ∨ (0 ≤ q ∧ q < 8)) : f_X12_areTwo s q M = f_unl s q := by
  unfold f_X12_areTwo f_unl
  by_cases c1 : s = -1
  · rw [if_pos c1, if_neg (fun e => e.1 c1)]
  · by_cases c2 : q = -1
    · rw [if_neg c1, if_pos c2, if_neg (fun e => e.2.1 c2)]
    · rw [if_neg c1, if_neg c2, g_tdiv (show 0 ≤ s by omega), g_tdiv (show 0 ≤ q by omega), gj_wle (x := s / 4) (by omega) (by omega), gj_wle (x := q / 4) (by omega) (by omega)]
      by_cases c3 : s / 4 = q / 4
      · rw [if_pos c3, if_neg (by omega)]
      · rw [if_neg c3, if_pos ⟨c1, c2, by omega⟩]
theorem g_unl_in {s q : Int} (h : ¬ f_unl s q = 0) : s ≠ -1 ∧ q ≠ -1 ∧ ¬ (s < 4 ↔ q < 4) := by
  unfold f_unl at h
  split at h
  · assumption
  · exact absurd rfl h
theorem p_thinkOf {C R : gj_M} {a b k : Int} (h : g_VS C R) : F_X12_think a b k R = some (f_X11_think a b k C) := by
  obtain ⟨s, e1, e2, e3⟩ := p_who (a := a) h
  obtain ⟨q, f1, f2, f3⟩ := p_who (a := b) h
  have hs : s = -1 ∨ (0 ≤ s ∧ s < 8) := by omega
  have hq : q = -1 ∨ (0 ≤ q ∧ q < 8) := by omega
  unfold F_X12_think f_X11_think
  dsimp only [gj_letI]
  rw [e1, e2, f1, f2, gj_bnd_s, gj_bnd_s, p_areTwo hs hq]
  by_cases c : f_unl s q = 0
  · rw [if_pos c, if_pos c]
  · have u := g_unl_in c
    have s8 : 0 ≤ s ∧ s < 8 := by omega
    have q8 : 0 ≤ q ∧ q < 8 := by omega
    have hp : g_PL C R := by
      rcases e3 with e | e
      · exact absurd e u.1
      · exact e.2.2.2.2
    rw [if_neg c, if_neg c, p_cpl s8 q8, p_vw s8 q8]
    have hi : 0 ≤ 4 * s + q % 4 ∧ 4 * s + q % 4 < 32 := by omega
    generalize 4 * s + q % 4 = i at *
    have v := hp.vw i hi.1 hi.2
    rw [gj_chkp hi, gj_chkp hi, gj_chkp hi, f_at_in hi, f_at_in hi, f_at_in hi, v.1, v.2.1, v.2.2.1]
    (repeat' split) <;> rfl
